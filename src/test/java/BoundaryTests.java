// Each sentence of the document that names a boundary, at the last value on this side of it and at
// the first on the other. That a refused call changes nothing is the matter of RefusalTests.
public final class BoundaryTests {
    private static final int BAD_QUEUE = -1;
    private static final int BAD_CONSUMER = -2;
    private static final int BAD_NUMBER = -3;
    private static final int FULL = -4;
    private static final int EMPTY = -5;
    private static final int NOT_OUT = -6;
    private static final int BUSY = -7;
    private static final int READY = 0;
    private static final int OUT = 1;
    private static final int DONE = 2;
    private static final int DEAD = 3;

    private static final int MIN = Integer.MIN_VALUE;
    private static final int MAX = Integer.MAX_VALUE;

    private static String sentence = "";
    private static int wrong = 0;

    public static void main(String[] args) {
        wholeObject();
        publish();
        take();
        acknowledgeAndRefuse();
        loseAndRenew();
        pass();
        tuneAndRevive();
        clear();
        readingCalls();
        comingBack();
        if (wrong > 0) {
            System.exit(1);
        }
    }

    private static void about(String words) {
        sentence = words;
    }

    private static void due(String call, long got, long want) {
        if (got != want) {
            wrong++;
            System.out.println(sentence + " | " + call + " answered " + got + ", due is " + want);
        }
    }

    private static void publishMany(LeasedMessages x, int queue, int count) {
        for (int i = 0; i < count; i++) {
            x.publish(queue, 1, 0, 0);
        }
    }

    private static void deliver(LeasedMessages x, int queue, int message, int times) {
        for (int i = 0; i < times; i++) {
            due("take for a delivery", x.take(queue, 0), message);
            due("refuse after a delivery", x.refuse(0, message), READY);
        }
    }

    // ---- The object as a whole; Promise 1 ----

    private static void wholeObject() {
        lastOf512Calls();
        timeIsZeroAtTheStart();
        patienceIsFiveAtTheStart();
        limitIsThreeAtTheStart();
        objectsAreApart();
    }

    private static void lastOf512Calls() {
        about("An object is used for at most 512 calls");
        LeasedMessages x = new LeasedMessages();
        for (int i = 1; i <= 508; i++) {
            due("call " + i + ", pass(100)", x.pass(100), 0);
        }
        due("call 509, publish", x.publish(2, 7, 3, 50), 0);
        due("call 510, take", x.take(2, 2), 0);
        due("call 511, renew", x.renew(2, 0), 50805);
        due("call 512, nextDeadline", x.nextDeadline(), 50805);
    }

    private static void timeIsZeroAtTheStart() {
        about("TIME is a number, 0 at the start");
        LeasedMessages x = new LeasedMessages();
        x.tune(0, 1, 1);
        x.publish(0, 1, 0, 0);
        x.take(0, 0);
        due("nextDeadline at time 0 with patience 1", x.nextDeadline(), 1);
    }

    private static void patienceIsFiveAtTheStart() {
        about("PATIENCE (1 to 20, at the start 5)");
        for (int queue = 0; queue < 3; queue++) {
            LeasedMessages x = new LeasedMessages();
            x.publish(queue, 1, 0, 0);
            x.take(queue, 0);
            due("pass(4), queue " + queue, x.pass(4), 0);
            due("pass(1), queue " + queue, x.pass(1), 1);
        }
    }

    private static void limitIsThreeAtTheStart() {
        about("LIMIT (1 to 5, at the start 3)");
        for (int queue = 0; queue < 3; queue++) {
            LeasedMessages x = new LeasedMessages();
            x.publish(queue, 1, 0, 0);
            deliver(x, queue, 0, 2);
            x.take(queue, 0);
            due("the third refuse, queue " + queue, x.refuse(0, 0), DEAD);
        }
    }

    private static void objectsAreApart() {
        about("A new object: no messages; time 0");
        LeasedMessages used = new LeasedMessages();
        used.tune(0, 20, 1);
        used.pass(100);
        publishMany(used, 0, 40);
        LeasedMessages x = new LeasedMessages();
        due("state(0) beside a used object", x.state(0), BAD_NUMBER);
        due("publish beside a used object", x.publish(0, 1, 0, 0), 0);
        x.take(0, 0);
        due("nextDeadline beside a used object", x.nextDeadline(), 5);
        due("refuse beside a used object", x.refuse(0, 0), READY);
        due("publish on the used object", used.publish(0, 1, 0, 0), FULL);
    }

    // ---- Promise 2 ----

    private static void publish() {
        publishFirstAndLastQueue();
        publishFirstAndLastPriority();
        publishFirstAndLastLife();
        publishAnyBody();
        publishFortyOfOneQueue();
        publishFortyWhateverBecameOfThem();
        publishRefusedDoesNotCount();
    }

    private static void publishFirstAndLastQueue() {
        about("publish: queue not in 0 to 2: BAD_QUEUE");
        LeasedMessages x = new LeasedMessages();
        due("publish to queue -1", x.publish(-1, 1, 0, 0), BAD_QUEUE);
        due("publish to queue 0", x.publish(0, 1, 0, 0), 0);
        due("publish to queue 1", x.publish(1, 1, 0, 0), 1);
        due("publish to queue 2", x.publish(2, 1, 0, 0), 2);
        due("publish to queue 3", x.publish(3, 1, 0, 0), BAD_QUEUE);
        for (int queue = 0; queue < 3; queue++) {
            due("ready(" + queue + ")", x.ready(queue), 1);
            due("peek(" + queue + ", 0)", x.peek(queue, 0), queue);
        }
    }

    private static void publishFirstAndLastPriority() {
        about("publish: priority not in 0 to 3: BAD_NUMBER");
        LeasedMessages x = new LeasedMessages();
        due("priority -1", x.publish(0, 1, -1, 0), BAD_NUMBER);
        for (int priority = 0; priority <= 3; priority++) {
            due("priority " + priority, x.publish(0, 1, priority, 0), priority);
        }
        due("priority 4", x.publish(0, 1, 4, 0), BAD_NUMBER);
        for (int i = 0; i <= 3; i++) {
            due("peek(0, " + i + "), greater priority first", x.peek(0, i), 3 - i);
        }
        due("peek(0, 4)", x.peek(0, 4), EMPTY);
    }

    private static void publishFirstAndLastLife() {
        about("publish: life not in 0 to 50: BAD_NUMBER");
        LeasedMessages x = new LeasedMessages();
        due("life -1", x.publish(0, 1, 0, -1), BAD_NUMBER);
        due("life 0", x.publish(0, 1, 0, 0), 0);
        due("life 1", x.publish(0, 2, 0, 1), 1);
        due("life 49", x.publish(0, 4, 0, 49), 2);
        due("life 50", x.publish(0, 8, 0, 50), 3);
        due("life 51", x.publish(0, 16, 0, 51), BAD_NUMBER);
        x.pass(0);
        due("sum(DONE) at time 0", x.sum(DONE), 0);
        x.pass(1);
        due("sum(DONE) at time 1", x.sum(DONE), 2);
        x.pass(47);
        due("sum(DONE) at time 48", x.sum(DONE), 2);
        x.pass(1);
        due("sum(DONE) at time 49", x.sum(DONE), 6);
        x.pass(1);
        due("sum(DONE) at time 50", x.sum(DONE), 14);
        x.pass(100);
        due("sum(DONE) at time 150, life 0 never ends", x.sum(DONE), 14);
        due("state(0), life 0", x.state(0), READY);
    }

    private static void publishAnyBody() {
        about("A message has a BODY (an int)");
        for (int body : new int[] {MIN, MIN + 1, -1, 0, 1, MAX - 1, MAX}) {
            LeasedMessages x = new LeasedMessages();
            due("publish body " + body, x.publish(0, body, 0, 0), 0);
            due("sum(READY)", x.sum(READY), body);
        }
    }

    private static void publishFortyOfOneQueue() {
        about("publish: 40 messages have been published since the start or the last clear: FULL");
        for (int queue = 0; queue < 3; queue++) {
            LeasedMessages x = new LeasedMessages();
            for (int i = 0; i < 40; i++) {
                due("publish " + i, x.publish(queue, 1, 0, 0), i);
            }
            due("publish 40", x.publish(queue, 1, 0, 0), FULL);
            due("publish 40 again", x.publish(queue, 1, 0, 0), FULL);
            due("publish 40 to another queue", x.publish((queue + 1) % 3, 1, 0, 0), FULL);
            x.clear();
            for (int i = 0; i < 40; i++) {
                due("publish " + i + " after clear", x.publish(queue, 1, 0, 0), i);
            }
            due("publish 40 after clear", x.publish(queue, 1, 0, 0), FULL);
        }
    }

    private static void publishFortyWhateverBecameOfThem() {
        about("publish: FULL counts the published messages, whatever became of them");
        LeasedMessages x = new LeasedMessages();
        x.tune(0, 5, 1);
        for (int i = 0; i < 39; i++) {
            x.publish(0, 1, 0, i % 2);
        }
        x.take(0, 0);
        x.take(0, 0);
        x.acknowledge(0, 0);
        x.refuse(0, 1);
        x.pass(1);
        due("state(0), acknowledged", x.state(0), DONE);
        due("state(1), DEAD", x.state(1), DEAD);
        due("state(37), expired", x.state(37), DONE);
        due("the 40th publish", x.publish(0, 1, 0, 0), 39);
        due("the 41st publish", x.publish(0, 1, 0, 0), FULL);
    }

    private static void publishRefusedDoesNotCount() {
        about("publish: a refused call uses no number");
        LeasedMessages x = new LeasedMessages();
        for (int i = 0; i < 40; i++) {
            x.publish(3, 1, 0, 0);
            x.publish(0, 1, 4, 0);
            x.publish(0, 1, 0, 51);
            due("publish after refused ones", x.publish(0, 1, 0, 0), i);
        }
        due("publish at last", x.publish(0, 1, 0, 0), FULL);
    }

    // ---- Promise 3 ----

    private static void take() {
        takeFirstAndLastQueueAndConsumer();
        takeWithTwoOut();
        takeWithTwoOutOfEachConsumer();
        takeTheLastReadyMessage();
        takeFromQueueWithoutReady();
        takeWithLeastAndGreatestPatience();
        takeTheLastOfForty();
    }

    private static void takeFirstAndLastQueueAndConsumer() {
        about("take: BAD_QUEUE; consumer not in 0 to 2: BAD_CONSUMER");
        LeasedMessages x = new LeasedMessages();
        for (int queue = 0; queue < 3; queue++) {
            publishMany(x, queue, 2);
        }
        due("take(-1, 0)", x.take(-1, 0), BAD_QUEUE);
        due("take(3, 0)", x.take(3, 0), BAD_QUEUE);
        due("take(0, -1)", x.take(0, -1), BAD_CONSUMER);
        due("take(0, 3)", x.take(0, 3), BAD_CONSUMER);
        due("take(0, 0)", x.take(0, 0), 0);
        due("take(0, 2)", x.take(0, 2), 1);
        due("take(2, 0)", x.take(2, 0), 4);
        due("take(2, 2)", x.take(2, 2), 5);
        due("take(1, 1)", x.take(1, 1), 2);
        due("lose(0)", x.lose(0), 2);
        due("lose(1)", x.lose(1), 1);
        due("lose(2)", x.lose(2), 2);
    }

    private static void takeWithTwoOut() {
        about("take: it has two messages OUT: BUSY");
        LeasedMessages x = new LeasedMessages();
        publishMany(x, 0, 5);
        due("take with none OUT", x.take(0, 1), 0);
        due("take with one OUT", x.take(0, 1), 1);
        due("take with two OUT", x.take(0, 1), BUSY);
        due("acknowledge", x.acknowledge(1, 0), 1);
        due("take with one OUT after acknowledge", x.take(0, 1), 2);
        due("take with two OUT after acknowledge", x.take(0, 1), BUSY);
        due("refuse", x.refuse(1, 1), READY);
        due("take with one OUT after refuse", x.take(0, 1), 1);
        due("take with two OUT after refuse", x.take(0, 1), BUSY);
        due("pass to the deadline", x.pass(5), 2);
        due("take with none OUT after pass", x.take(0, 1), 1);
        due("take with one OUT after pass", x.take(0, 1), 2);
        due("take with two OUT after pass", x.take(0, 1), BUSY);
        due("lose", x.lose(1), 2);
        due("state(1), delivered three times", x.state(1), DEAD);
        due("take with none OUT after lose", x.take(0, 1), 2);
        due("take with one OUT after lose", x.take(0, 1), 3);
        due("take with two OUT after lose", x.take(0, 1), BUSY);
        x.clear();
        publishMany(x, 0, 3);
        due("take with none OUT after clear", x.take(0, 1), 0);
        due("take with one OUT after clear", x.take(0, 1), 1);
        due("take with two OUT after clear", x.take(0, 1), BUSY);
    }

    private static void takeWithTwoOutOfEachConsumer() {
        about("take: a consumer may have at most two messages OUT, over all queues");
        LeasedMessages x = new LeasedMessages();
        for (int i = 0; i < 9; i++) {
            x.publish(i % 3, 1, 0, 0);
        }
        int[] firsts = {0, 4, 5};
        int[] seconds = {1, 2, 3};
        for (int consumer = 0; consumer < 3; consumer++) {
            due("first take of " + consumer, x.take(consumer, consumer), firsts[consumer]);
            due("second take of " + consumer, x.take((consumer + 1) % 3, consumer), seconds[consumer]);
            for (int queue = 0; queue < 3; queue++) {
                due("third take of " + consumer, x.take(queue, consumer), BUSY);
            }
        }
    }

    private static void takeTheLastReadyMessage() {
        about("take: the queue has none: EMPTY");
        for (int queue = 0; queue < 3; queue++) {
            LeasedMessages x = new LeasedMessages();
            due("take from a queue with none", x.take(queue, 0), EMPTY);
            x.publish((queue + 1) % 3, 1, 0, 0);
            due("take with a message in another queue", x.take(queue, 0), EMPTY);
            x.publish(queue, 1, 0, 0);
            due("take from a queue with one", x.take(queue, 0), 1);
            due("take after the last one", x.take(queue, 0), EMPTY);
            x.refuse(0, 1);
            due("take when it is back", x.take(queue, 0), 1);
            due("take after it", x.take(queue, 0), EMPTY);
        }
    }

    private static void takeFromQueueWithoutReady() {
        about("take: a queue whose messages are OUT, DONE or DEAD has none: EMPTY");
        LeasedMessages x = new LeasedMessages();
        x.tune(0, 5, 1);
        publishMany(x, 0, 3);
        x.publish(0, 1, 0, 1);
        x.take(0, 0);
        x.acknowledge(0, 0);
        x.take(0, 0);
        x.refuse(0, 1);
        x.take(0, 0);
        x.pass(1);
        due("take", x.take(0, 1), EMPTY);
        due("state(2), OUT", x.state(2), OUT);
        due("state(3), expired", x.state(3), DONE);
    }

    private static void takeWithLeastAndGreatestPatience() {
        about("take: a deadline of the time plus the queue's patience");
        LeasedMessages x = new LeasedMessages();
        x.pass(100);
        x.tune(0, 1, 3);
        x.tune(1, 20, 3);
        publishMany(x, 0, 1);
        publishMany(x, 1, 1);
        x.take(1, 0);
        due("nextDeadline, patience 20", x.nextDeadline(), 120);
        x.take(0, 0);
        due("nextDeadline, patience 1", x.nextDeadline(), 101);
        due("pass(0)", x.pass(0), 0);
        due("pass(1) to 101", x.pass(1), 1);
        due("pass(18) to 119", x.pass(18), 0);
        due("pass(1) to 120", x.pass(1), 1);
    }

    private static void takeTheLastOfForty() {
        about("take: the first message of a queue, of 40");
        LeasedMessages x = new LeasedMessages();
        publishMany(x, 0, 39);
        x.publish(0, 1, 3, 0);
        due("take, greater priority first", x.take(0, 0), 39);
        due("take, smaller number first", x.take(0, 0), 0);
        due("refuse the last message", x.refuse(0, 39), READY);
        due("take it again, whatever happened meanwhile", x.take(0, 0), 39);
        due("acknowledge the last message", x.acknowledge(0, 39), 1);
    }

    // ---- Promises 4 and 5 ----

    private static void acknowledgeAndRefuse() {
        firstAndLastConsumer();
        firstAndLastMessage();
        acknowledgeCountsDownToNone();
        acknowledgeOnceOnly();
        refuseBelowAndAtTheLimit();
        refuseOnceOnly();
        outWithAnotherConsumer();
        onTheDeadline();
    }

    private static void firstAndLastConsumer() {
        about("acknowledge, refuse, renew, lose: consumer not in 0 to 2: BAD_CONSUMER");
        LeasedMessages x = new LeasedMessages();
        publishMany(x, 0, 3);
        for (int consumer = 0; consumer < 3; consumer++) {
            x.take(0, consumer);
        }
        for (int consumer : new int[] {-1, 3}) {
            due("acknowledge(" + consumer + ", 0)", x.acknowledge(consumer, 0), BAD_CONSUMER);
            due("refuse(" + consumer + ", 0)", x.refuse(consumer, 0), BAD_CONSUMER);
            due("renew(" + consumer + ", 0)", x.renew(consumer, 0), BAD_CONSUMER);
            due("lose(" + consumer + ")", x.lose(consumer), BAD_CONSUMER);
        }
        for (int consumer = 0; consumer < 3; consumer++) {
            due("renew by " + consumer, x.renew(consumer, consumer), 5);
            due("refuse by " + consumer, x.refuse(consumer, consumer), READY);
            x.take(0, consumer);
            due("lose by " + consumer, x.lose(consumer), 1);
            x.take(0, consumer);
            due("acknowledge by " + consumer, x.acknowledge(consumer, consumer), 0);
        }
    }

    private static void firstAndLastMessage() {
        about("acknowledge, refuse, renew: the message is not OUT with this consumer: NOT_OUT");
        for (int count : new int[] {2, 39, 40}) {
            LeasedMessages x = new LeasedMessages();
            publishMany(x, 0, count - 1);
            x.publish(0, 1, 1, 0);
            x.take(0, 0);
            x.take(0, 0);
            for (int message : new int[] {-1, count}) {
                due("acknowledge of none", x.acknowledge(0, message), NOT_OUT);
                due("refuse of none", x.refuse(0, message), NOT_OUT);
                due("renew of none", x.renew(0, message), NOT_OUT);
            }
            due("renew of the first", x.renew(0, 0), 5);
            due("renew of the last", x.renew(0, count - 1), 5);
            due("refuse of the last", x.refuse(0, count - 1), READY);
            due("refuse of the first", x.refuse(0, 0), READY);
            x.take(0, 0);
            x.take(0, 0);
            due("acknowledge of the last", x.acknowledge(0, count - 1), 1);
            due("acknowledge of the first", x.acknowledge(0, 0), 0);
        }
    }

    private static void acknowledgeCountsDownToNone() {
        about("acknowledge: answers how many messages the consumer has OUT now");
        LeasedMessages x = new LeasedMessages();
        publishMany(x, 0, 5);
        x.take(0, 0);
        x.take(0, 0);
        x.take(0, 1);
        x.take(0, 1);
        x.take(0, 2);
        due("acknowledge of one of two", x.acknowledge(0, 1), 1);
        due("acknowledge of one of one", x.acknowledge(0, 0), 0);
        due("acknowledge of another's one of one", x.acknowledge(2, 4), 0);
        due("acknowledge of another's one of two", x.acknowledge(1, 2), 1);
    }

    private static void acknowledgeOnceOnly() {
        about("acknowledge: it is DONE, and not OUT any more: NOT_OUT");
        LeasedMessages x = new LeasedMessages();
        publishMany(x, 0, 1);
        due("acknowledge ahead of take", x.acknowledge(0, 0), NOT_OUT);
        x.take(0, 0);
        due("acknowledge", x.acknowledge(0, 0), 0);
        due("state", x.state(0), DONE);
        due("acknowledge again", x.acknowledge(0, 0), NOT_OUT);
        due("refuse after acknowledge", x.refuse(0, 0), NOT_OUT);
        due("renew after acknowledge", x.renew(0, 0), NOT_OUT);
        due("lose after acknowledge", x.lose(0), 0);
        due("pass after acknowledge", x.pass(100), 0);
        due("state at last", x.state(0), DONE);
    }

    private static void refuseBelowAndAtTheLimit() {
        about("refuse: it comes back; answers the message's state");
        for (int limit = 1; limit <= 5; limit++) {
            LeasedMessages x = new LeasedMessages();
            x.tune(1, 5, limit);
            publishMany(x, 1, 1);
            deliver(x, 1, 0, limit - 1);
            x.take(1, 0);
            due("refuse at the limit " + limit, x.refuse(0, 0), DEAD);
            due("state", x.state(0), DEAD);
            due("take of a DEAD message", x.take(1, 0), EMPTY);
        }
    }

    private static void refuseOnceOnly() {
        about("refuse: a message that is READY or DEAD is not OUT: NOT_OUT");
        LeasedMessages x = new LeasedMessages();
        x.tune(0, 5, 2);
        publishMany(x, 0, 1);
        due("refuse ahead of take", x.refuse(0, 0), NOT_OUT);
        x.take(0, 0);
        due("refuse", x.refuse(0, 0), READY);
        due("refuse again", x.refuse(0, 0), NOT_OUT);
        due("acknowledge after refuse", x.acknowledge(0, 0), NOT_OUT);
        due("renew after refuse", x.renew(0, 0), NOT_OUT);
        x.take(0, 0);
        due("refuse at the limit", x.refuse(0, 0), DEAD);
        due("refuse of a DEAD message", x.refuse(0, 0), NOT_OUT);
        due("acknowledge of a DEAD message", x.acknowledge(0, 0), NOT_OUT);
        due("renew of a DEAD message", x.renew(0, 0), NOT_OUT);
    }

    private static void outWithAnotherConsumer() {
        about("acknowledge, refuse, renew: OUT, but not with this consumer: NOT_OUT");
        for (int holder = 0; holder < 3; holder++) {
            LeasedMessages x = new LeasedMessages();
            publishMany(x, 0, 1);
            x.take(0, holder);
            for (int other = 0; other < 3; other++) {
                if (other != holder) {
                    due("acknowledge by another", x.acknowledge(other, 0), NOT_OUT);
                    due("refuse by another", x.refuse(other, 0), NOT_OUT);
                    due("renew by another", x.renew(other, 0), NOT_OUT);
                    due("lose of another", x.lose(other), 0);
                }
            }
            due("state", x.state(0), OUT);
            due("acknowledge by its own", x.acknowledge(holder, 0), 0);
        }
    }

    private static void onTheDeadline() {
        about("acknowledge, refuse, renew: OUT until the deadline, NOT_OUT from it on");
        for (int late = 0; late < 2; late++) {
            LeasedMessages x = new LeasedMessages();
            publishMany(x, 0, 2);
            publishMany(x, 1, 1);
            x.take(0, 0);
            x.take(0, 0);
            x.take(1, 1);
            x.pass(4 + late);
            due("renew", x.renew(0, 0), late == 0 ? 9 : NOT_OUT);
            due("refuse", x.refuse(0, 1), late == 0 ? READY : NOT_OUT);
            due("acknowledge", x.acknowledge(1, 2), late == 0 ? 0 : NOT_OUT);
        }
    }

    // ---- Promises 6 and 7 ----

    private static void loseAndRenew() {
        loseNoneOneTwo();
        loseAtTheLimit();
        renewWithLeastAndGreatestPatience();
        renewMovesTheDeadlineBothWays();
        renewIsNoDelivery();
    }

    private static void loseNoneOneTwo() {
        about("lose: all messages that it has OUT come back; answers how many");
        for (int consumer = 0; consumer < 3; consumer++) {
            LeasedMessages x = new LeasedMessages();
            publishMany(x, 0, 2);
            publishMany(x, 2, 1);
            x.take(2, (consumer + 1) % 3);
            due("lose with none OUT", x.lose(consumer), 0);
            x.take(0, consumer);
            due("lose with one OUT", x.lose(consumer), 1);
            x.take(0, consumer);
            x.take(0, consumer);
            due("lose with two OUT", x.lose(consumer), 2);
            due("lose again", x.lose(consumer), 0);
            due("ready", x.ready(0), 2);
            due("state of another's", x.state(2), OUT);
        }
    }

    private static void loseAtTheLimit() {
        about("lose: messages at the limit are DEAD, and count as come back");
        LeasedMessages x = new LeasedMessages();
        publishMany(x, 0, 1);
        deliver(x, 0, 0, 2);
        publishMany(x, 0, 1);
        x.take(0, 0);
        x.take(0, 0);
        due("lose", x.lose(0), 2);
        due("state with 3 deliveries", x.state(0), DEAD);
        due("state with 1 delivery", x.state(1), READY);
    }

    private static void renewWithLeastAndGreatestPatience() {
        about("renew: the deadline becomes the time plus its queue's patience");
        for (int patience : new int[] {1, 2, 19, 20}) {
            LeasedMessages x = new LeasedMessages();
            publishMany(x, 1, 1);
            x.take(1, 0);
            x.pass(4);
            x.tune(1, patience, 3);
            due("renew, patience " + patience, x.renew(0, 0), 4 + patience);
            due("nextDeadline", x.nextDeadline(), 4 + patience);
            due("pass to just before it", x.pass(patience - 1), 0);
            due("pass to it", x.pass(1), 1);
        }
    }

    private static void renewMovesTheDeadlineBothWays() {
        about("renew: answers the deadline, later or earlier than it was");
        LeasedMessages x = new LeasedMessages();
        x.tune(0, 20, 3);
        publishMany(x, 0, 2);
        x.take(0, 0);
        x.take(0, 0);
        due("renew at once", x.renew(0, 0), 20);
        x.tune(0, 1, 3);
        due("renew with less patience", x.renew(0, 0), 1);
        due("pass(1)", x.pass(1), 1);
        due("state of the renewed", x.state(0), READY);
        due("state of the other", x.state(1), OUT);
        due("nextDeadline of the other", x.nextDeadline(), 20);
    }

    private static void renewIsNoDelivery() {
        about("renew: more time is no delivery");
        LeasedMessages x = new LeasedMessages();
        x.tune(0, 5, 2);
        publishMany(x, 0, 1);
        x.take(0, 0);
        for (int i = 0; i < 6; i++) {
            x.renew(0, 0);
        }
        due("refuse after one delivery", x.refuse(0, 0), READY);
        x.take(0, 0);
        due("refuse after two", x.refuse(0, 0), DEAD);
    }

    // ---- Promise 8 ----

    private static void pass() {
        passLeastAndMost();
        passToTheDeadline();
        passCountsAll();
        passToTheEndOfALife();
        passEndsNoLifeOfOthers();
        passBringsBackThenEndsLives();
        passZeroEndsALife();
        lostAfterTheEndOfALife();
        passCountsNoEndedLife();
        onlyPassEndsALife();
    }

    private static void passLeastAndMost() {
        about("pass: n not in 0 to 100: BAD_NUMBER");
        LeasedMessages x = new LeasedMessages();
        publishMany(x, 0, 1);
        x.take(0, 0);
        due("pass(-1)", x.pass(-1), BAD_NUMBER);
        due("pass(101)", x.pass(101), BAD_NUMBER);
        due("renew at time 0", x.renew(0, 0), 5);
        due("pass(0)", x.pass(0), 0);
        due("renew at time 0 still", x.renew(0, 0), 5);
        due("pass(1)", x.pass(1), 0);
        due("renew at time 1", x.renew(0, 0), 6);
        due("pass(99)", x.pass(99), 1);
        x.take(0, 0);
        due("renew at time 100", x.renew(0, 0), 105);
        due("pass(100)", x.pass(100), 1);
        x.take(0, 0);
        due("renew at time 200", x.renew(0, 0), 205);
    }

    private static void passToTheDeadline() {
        about("pass: every message that is OUT with a deadline of at most the time comes back");
        for (int n : new int[] {4, 5, 6, 100}) {
            LeasedMessages x = new LeasedMessages();
            publishMany(x, 0, 1);
            x.take(0, 0);
            due("pass(" + n + "), deadline 5", x.pass(n), n < 5 ? 0 : 1);
            due("state", x.state(0), n < 5 ? OUT : READY);
        }
    }

    private static void passCountsAll() {
        about("pass: answers how many messages came back");
        for (int count = 0; count <= 6; count++) {
            LeasedMessages x = new LeasedMessages();
            x.tune(1, 5, 1);
            for (int i = 0; i < count; i++) {
                x.publish(i % 2, 1, 0, 0);
                x.take(i % 2, i / 2);
            }
            due("pass with " + count + " OUT", x.pass(5), count);
            due("pass again", x.pass(5), 0);
        }
    }

    private static void passToTheEndOfALife() {
        about("pass: a READY message whose publishing time plus life is at most the time is DONE");
        for (int life : new int[] {1, 2, 49, 50}) {
            LeasedMessages x = new LeasedMessages();
            x.pass(7);
            x.publish(0, 1, 0, life);
            due("pass to just before the end", x.pass(life - 1), 0);
            due("state just before the end", x.state(0), READY);
            due("pass to the end", x.pass(1), 0);
            due("state at the end", x.state(0), DONE);
            due("ready at the end", x.ready(0), 0);
            x = new LeasedMessages();
            x.publish(0, 1, 0, life);
            x.pass(life + 1);
            due("state behind the end", x.state(0), DONE);
        }
    }

    private static void passEndsNoLifeOfOthers() {
        about("pass: a message that is OUT or DEAD, or has no life, is not DONE by time");
        LeasedMessages x = new LeasedMessages();
        x.tune(0, 20, 1);
        x.publish(0, 1, 3, 1);
        x.publish(0, 2, 2, 1);
        x.publish(0, 4, 0, 0);
        x.take(0, 0);
        x.refuse(0, 0);
        x.take(0, 0);
        x.pass(19);
        due("state, DEAD", x.state(0), DEAD);
        due("state, OUT", x.state(1), OUT);
        due("state, without a life", x.state(2), READY);
        due("acknowledge of a message whose life has ended", x.acknowledge(0, 1), 0);
        x.pass(100);
        due("state, DEAD at last", x.state(0), DEAD);
        due("state, without a life at last", x.state(2), READY);
    }

    private static void passBringsBackThenEndsLives() {
        about("pass: and then every READY message with a life ... is DONE");
        for (int life = 4; life <= 6; life++) {
            LeasedMessages x = new LeasedMessages();
            x.tune(1, 5, 1);
            x.publish(0, 1, 0, life);
            x.publish(1, 1, 0, life);
            x.take(0, 0);
            x.take(1, 0);
            due("pass(5), life " + life, x.pass(5), 2);
            due("state of one that came back", x.state(0), life <= 5 ? DONE : READY);
            due("state of one that came back DEAD", x.state(1), DEAD);
        }
    }

    private static void passZeroEndsALife() {
        about("pass(0): lives that ended while a message was OUT or DEAD end now");
        LeasedMessages x = new LeasedMessages();
        x.tune(1, 5, 1);
        x.publish(0, 1, 0, 1);
        x.publish(1, 1, 0, 1);
        x.publish(2, 1, 0, 3);
        x.take(0, 0);
        x.take(1, 1);
        x.take(2, 2);
        x.refuse(1, 1);
        x.pass(2);
        due("refuse after the end of life", x.refuse(0, 0), READY);
        due("revive after the end of life", x.revive(1), 1);
        due("lose before the end of life", x.lose(2), 1);
        due("state before pass, refused", x.state(0), READY);
        due("state before pass, revived", x.state(1), READY);
        due("pass(0)", x.pass(0), 0);
        due("state after pass, refused", x.state(0), DONE);
        due("state after pass, revived", x.state(1), DONE);
        due("state after pass, alive", x.state(2), READY);
    }

    private static void lostAfterTheEndOfALife() {
        about("lose: all messages that it has OUT come back, READY even after the end of their life");
        LeasedMessages x = new LeasedMessages();
        x.publish(0, 1, 0, 1);
        x.publish(1, 2, 0, 2);
        x.publish(1, 4, 0, 3);
        x.take(0, 0);
        x.take(1, 0);
        x.take(1, 1);
        x.pass(2);
        due("lose after the end of two lives", x.lose(0), 2);
        due("lose before the end of a life", x.lose(1), 1);
        due("sum(READY) before pass", x.sum(READY), 7);
        due("take of one whose life has ended", x.take(0, 2), 0);
        due("pass(0)", x.pass(0), 0);
        due("state, OUT again", x.state(0), OUT);
        due("state, READY until pass", x.state(1), DONE);
        due("state, alive", x.state(2), READY);
    }

    private static void passCountsNoEndedLife() {
        about("pass: a message that has expired did not come back");
        LeasedMessages x = new LeasedMessages();
        x.publish(0, 1, 0, 2);
        x.publish(0, 1, 0, 2);
        due("pass(2)", x.pass(2), 0);
        due("state", x.state(1), DONE);
    }

    // Message 0's life ended while it was OUT, message 1 is OUT with consumer 1 until time 13.
    private static LeasedMessages lifeEndedWhileOut() {
        LeasedMessages x = new LeasedMessages();
        x.tune(1, 10, 3);
        x.publish(0, 1, 0, 2);
        x.publish(1, 2, 0, 0);
        x.publish(2, 4, 0, 0);
        x.take(0, 0);
        x.pass(3);
        x.take(1, 1);
        x.refuse(0, 0);
        return x;
    }

    private static void onlyPassEndsALife() {
        about("pass: with a life it expires: see pass, and in no other call");
        for (int call = 0; call < 14; call++) {
            LeasedMessages x = lifeEndedWhileOut();
            otherCall(x, call);
            due("state(0) after call " + call, x.state(0), READY);
            due("ready(0) after call " + call, x.ready(0), 1);
            due("take(0, 2) after call " + call, x.take(0, 2), 0);
            due("pass(0) while it is OUT", x.pass(0), 0);
            due("state(0) OUT", x.state(0), OUT);
            due("refuse", x.refuse(2, 0), READY);
            due("pass(0) while it is READY", x.pass(0), 0);
            due("state(0) at last", x.state(0), DONE);
        }
    }

    private static void otherCall(LeasedMessages x, int call) {
        switch (call) {
            case 0 -> due("publish", x.publish(2, 8, 0, 0), 3);
            case 1 -> due("take", x.take(2, 0), 2);
            case 2 -> due("acknowledge", x.acknowledge(1, 1), 0);
            case 3 -> due("refuse", x.refuse(1, 1), READY);
            case 4 -> due("lose", x.lose(1), 1);
            case 5 -> due("renew", x.renew(1, 1), 13);
            case 6 -> due("tune", x.tune(0, 5, 3), 0);
            case 7 -> due("revive", x.revive(0), 0);
            case 8 -> due("state", x.state(0), READY);
            case 9 -> due("ready", x.ready(0), 1);
            case 10 -> due("peek", x.peek(0, 0), 0);
            case 11 -> due("nextDeadline", x.nextDeadline(), 13);
            case 12 -> due("sum", x.sum(READY), 5);
            default -> due("pass(101)", x.pass(101), BAD_NUMBER);
        }
    }

    // ---- Promises 9 and 10 ----

    private static void tuneAndRevive() {
        tuneFirstAndLastQueue();
        tuneLeastAndGreatestPatience();
        tuneLeastAndGreatestLimit();
        tuneLeavesDeadlines();
        tuneOneQueueAlone();
        reviveFirstAndLastQueue();
        reviveNoneOneAll();
        reviveWithNoDeliveries();
        reviveOnlyTheDead();
    }

    private static void tuneFirstAndLastQueue() {
        about("tune: BAD_QUEUE");
        LeasedMessages x = new LeasedMessages();
        due("tune(-1, 5, 3)", x.tune(-1, 5, 3), BAD_QUEUE);
        due("tune(0, 5, 3)", x.tune(0, 5, 3), 0);
        due("tune(1, 5, 3)", x.tune(1, 5, 3), 0);
        due("tune(2, 5, 3)", x.tune(2, 5, 3), 0);
        due("tune(3, 5, 3)", x.tune(3, 5, 3), BAD_QUEUE);
    }

    private static void tuneLeastAndGreatestPatience() {
        about("tune: patience not in 1 to 20: BAD_NUMBER");
        for (int queue = 0; queue < 3; queue++) {
            for (int patience : new int[] {1, 20}) {
                LeasedMessages x = new LeasedMessages();
                publishMany(x, queue, 1);
                due("tune to patience 0", x.tune(queue, 0, 3), BAD_NUMBER);
                due("tune to patience 21", x.tune(queue, 21, 3), BAD_NUMBER);
                due("tune to patience " + patience, x.tune(queue, patience, 3), 0);
                x.take(queue, 0);
                due("nextDeadline", x.nextDeadline(), patience);
            }
        }
    }

    private static void tuneLeastAndGreatestLimit() {
        about("tune: limit not in 1 to 5: BAD_NUMBER");
        for (int queue = 0; queue < 3; queue++) {
            for (int limit : new int[] {1, 5}) {
                LeasedMessages x = new LeasedMessages();
                publishMany(x, queue, 1);
                due("tune to limit 0", x.tune(queue, 5, 0), BAD_NUMBER);
                due("tune to limit 6", x.tune(queue, 5, 6), BAD_NUMBER);
                due("tune to limit " + limit, x.tune(queue, 5, limit), 0);
                deliver(x, queue, 0, limit - 1);
                x.take(queue, 0);
                due("refuse at the limit", x.refuse(0, 0), DEAD);
            }
        }
    }

    private static void tuneLeavesDeadlines() {
        about("tune: (Deadlines that are set stay.)");
        for (int patience : new int[] {1, 20}) {
            LeasedMessages x = new LeasedMessages();
            publishMany(x, 0, 1);
            x.take(0, 0);
            x.tune(0, patience, 3);
            due("nextDeadline", x.nextDeadline(), 5);
            due("pass(4)", x.pass(4), 0);
            due("pass(1)", x.pass(1), 1);
        }
    }

    private static void tuneOneQueueAlone() {
        about("tune: sets a queue's patience and limit, no other's");
        for (int queue = 0; queue < 3; queue++) {
            LeasedMessages x = new LeasedMessages();
            x.tune(queue, 20, 1);
            for (int other = 0; other < 3; other++) {
                x.publish(other, 1, 0, 0);
                x.take(other, 0);
                due("nextDeadline", x.nextDeadline(), other == queue ? 20 : 5);
                due("refuse", x.refuse(0, other), other == queue ? DEAD : READY);
            }
        }
    }

    private static void reviveFirstAndLastQueue() {
        about("revive: BAD_QUEUE");
        LeasedMessages x = new LeasedMessages();
        for (int queue = 0; queue < 3; queue++) {
            x.tune(queue, 5, 1);
            publishMany(x, queue, 1);
            x.take(queue, 0);
            x.refuse(0, queue);
        }
        due("revive(-1)", x.revive(-1), BAD_QUEUE);
        due("revive(3)", x.revive(3), BAD_QUEUE);
        for (int queue = 0; queue < 3; queue++) {
            due("state ahead of revive", x.state(queue), DEAD);
            due("revive(" + queue + ")", x.revive(queue), 1);
            due("state", x.state(queue), READY);
        }
    }

    private static void reviveNoneOneAll() {
        about("revive: every DEAD message of a queue is READY again; answers how many");
        for (int count : new int[] {0, 1, 2, 39, 40}) {
            LeasedMessages x = new LeasedMessages();
            x.tune(2, 5, 1);
            publishMany(x, 2, 40);
            for (int message = 0; message < count; message++) {
                x.take(2, 0);
                x.refuse(0, message);
            }
            due("ready ahead of revive", x.ready(2), 40 - count);
            due("revive with " + count + " DEAD", x.revive(2), count);
            due("ready", x.ready(2), 40);
            due("revive again", x.revive(2), 0);
        }
    }

    private static void reviveWithNoDeliveries() {
        about("revive: READY again, with no deliveries");
        LeasedMessages x = new LeasedMessages();
        publishMany(x, 0, 1);
        for (int round = 0; round < 3; round++) {
            deliver(x, 0, 0, 2);
            x.take(0, 0);
            due("the third refuse", x.refuse(0, 0), DEAD);
            due("revive", x.revive(0), 1);
        }
        x.tune(0, 5, 1);
        x.take(0, 0);
        due("refuse at limit 1", x.refuse(0, 0), DEAD);
    }

    private static void reviveOnlyTheDead() {
        about("revive: no message that is READY, OUT or DONE");
        LeasedMessages x = new LeasedMessages();
        x.tune(0, 5, 2);
        publishMany(x, 0, 3);
        x.take(0, 0);
        x.acknowledge(0, 0);
        deliver(x, 0, 1, 1);
        x.take(0, 0);
        x.take(0, 0);
        x.refuse(0, 2);
        due("revive", x.revive(0), 0);
        due("state, DONE", x.state(0), DONE);
        due("state, OUT", x.state(1), OUT);
        due("state, READY", x.state(2), READY);
        due("refuse, the deliveries of an OUT message stay", x.refuse(0, 1), DEAD);
        x.take(0, 0);
        due("refuse, the deliveries of a READY message stay", x.refuse(0, 2), DEAD);
    }

    // ---- Promise 11 ----

    private static void clear() {
        clearEmptyAndFull();
        clearLeavesTheRest();
        clearForgetsWhatMessagesHad();
    }

    private static void clearEmptyAndFull() {
        about("clear: drops all messages; numbers begin with 0 again");
        for (int count : new int[] {0, 1, 39, 40}) {
            LeasedMessages x = new LeasedMessages();
            publishMany(x, 0, count);
            x.take(0, 0);
            x.take(0, 0);
            x.clear();
            due("state(0)", x.state(0), BAD_NUMBER);
            due("state(39)", x.state(39), BAD_NUMBER);
            due("ready", x.ready(0), 0);
            due("sum(READY)", x.sum(READY), 0);
            due("sum(OUT)", x.sum(OUT), 0);
            due("nextDeadline", x.nextDeadline(), EMPTY);
            due("lose", x.lose(0), 0);
            due("pass", x.pass(100), 0);
            due("publish", x.publish(0, 1, 0, 0), 0);
            due("publish again", x.publish(0, 1, 0, 0), 1);
            x.clear();
            x.clear();
            due("publish after clearing twice", x.publish(0, 1, 0, 0), 0);
        }
    }

    private static void clearLeavesTheRest() {
        about("clear: time, patience and limits stay");
        LeasedMessages x = new LeasedMessages();
        x.tune(0, 1, 1);
        x.tune(1, 20, 5);
        x.pass(100);
        x.clear();
        for (int queue = 0; queue < 3; queue++) {
            publishMany(x, queue, 1);
        }
        x.take(0, 0);
        due("nextDeadline, queue 0", x.nextDeadline(), 101);
        due("refuse, queue 0", x.refuse(0, 0), DEAD);
        x.take(2, 0);
        due("nextDeadline, queue 2", x.nextDeadline(), 105);
        x.refuse(0, 2);
        x.take(1, 0);
        due("nextDeadline, queue 1", x.nextDeadline(), 120);
        x.refuse(0, 1);
        deliver(x, 1, 1, 3);
        x.take(1, 0);
        due("refuse, queue 1", x.refuse(0, 1), DEAD);
    }

    private static void clearForgetsWhatMessagesHad() {
        about("clear: a new message has none of what an old one of its number had");
        LeasedMessages x = new LeasedMessages();
        x.publish(0, 7, 3, 1);
        x.publish(0, 9, 3, 1);
        deliver(x, 0, 0, 2);
        x.take(0, 2);
        x.clear();
        x.publish(1, 1, 0, 0);
        x.publish(1, 2, 1, 0);
        due("peek(1, 0), new priority", x.peek(1, 0), 1);
        due("ready(0), new queue", x.ready(0), 0);
        due("sum(READY), new body", x.sum(READY), 3);
        due("lose(2), no holder", x.lose(2), 0);
        due("pass, no deadline", x.pass(5), 0);
        due("state(0), no life", x.state(0), READY);
        due("take", x.take(1, 0), 1);
        due("take", x.take(1, 0), 0);
        due("refuse, no deliveries", x.refuse(0, 0), READY);
        x.clear();
        x.publish(1, 1, 0, 5);
        x.pass(4);
        due("state(0), life from its own publishing on", x.state(0), READY);
        x.pass(1);
        due("state(0), life ended", x.state(0), DONE);
    }

    // ---- Promises 12 to 16 ----

    private static void readingCalls() {
        stateOfFirstAndLast();
        readyNoneToForty();
        readyFirstAndLastQueue();
        peekFirstAndLastPlace();
        peekFortyPlaces();
        nextDeadlineNoneOneMany();
        nextDeadlineFarOn();
        sumOfFirstAndLastState();
        sumWrapsUpwards();
        sumWrapsDownwards();
        sumOfNone();
    }

    private static void stateOfFirstAndLast() {
        about("state: BAD_NUMBER if there is none");
        LeasedMessages x = new LeasedMessages();
        for (int count = 0; count <= 40; count++) {
            due("state(-1) of " + count, x.state(-1), BAD_NUMBER);
            due("state(" + count + ") of " + count, x.state(count), BAD_NUMBER);
            if (count > 0) {
                due("state(0) of " + count, x.state(0), READY);
                due("state of the last of " + count, x.state(count - 1), READY);
            }
            x.publish(count % 3, 1, 0, 0);
        }
    }

    private static void readyNoneToForty() {
        about("ready: how many messages of the queue are READY");
        for (int queue = 0; queue < 3; queue++) {
            LeasedMessages x = new LeasedMessages();
            for (int count = 0; count < 40; count++) {
                due("ready of " + count, x.ready(queue), count);
                x.publish(queue, 1, count % 4, 0);
            }
            due("ready of 40", x.ready(queue), 40);
            due("ready of another queue", x.ready((queue + 1) % 3), 0);
        }
    }

    private static void readyFirstAndLastQueue() {
        about("ready: BAD_QUEUE");
        LeasedMessages x = new LeasedMessages();
        for (int queue = 0; queue < 3; queue++) {
            publishMany(x, queue, queue + 1);
        }
        due("ready(-1)", x.ready(-1), BAD_QUEUE);
        due("ready(0)", x.ready(0), 1);
        due("ready(1)", x.ready(1), 2);
        due("ready(2)", x.ready(2), 3);
        due("ready(3)", x.ready(3), BAD_QUEUE);
    }

    private static void peekFirstAndLastPlace() {
        about("peek: the READY message that stands i-th in the queue, from 0; EMPTY if there is none");
        LeasedMessages x = new LeasedMessages();
        for (int queue = 0; queue < 3; queue++) {
            due("peek(queue, 0) with none", x.peek(queue, 0), EMPTY);
        }
        for (int i = 0; i < 6; i++) {
            x.publish(i % 3, 1, 0, 0);
        }
        due("peek(-1, 0)", x.peek(-1, 0), BAD_QUEUE);
        due("peek(3, 0)", x.peek(3, 0), BAD_QUEUE);
        for (int queue = 0; queue < 3; queue++) {
            due("peek(queue, MIN)", x.peek(queue, MIN), EMPTY);
            due("peek(queue, -1)", x.peek(queue, -1), EMPTY);
            due("peek(queue, 0)", x.peek(queue, 0), queue);
            due("peek(queue, 1)", x.peek(queue, 1), queue + 3);
            due("peek(queue, 2)", x.peek(queue, 2), EMPTY);
            due("peek(queue, MAX)", x.peek(queue, MAX), EMPTY);
        }
    }

    private static void peekFortyPlaces() {
        about("THE ORDER of a queue: greater priority first, of equal priority the smaller number");
        LeasedMessages x = new LeasedMessages();
        for (int message = 0; message < 40; message++) {
            x.publish(1, 1, message % 4, 0);
        }
        for (int i = 0; i < 40; i++) {
            int priority = 3 - i / 10;
            due("peek(1, " + i + ")", x.peek(1, i), priority + 4 * (i % 10));
        }
        due("peek(1, 40)", x.peek(1, 40), EMPTY);
    }

    private static void nextDeadlineNoneOneMany() {
        about("nextDeadline: the earliest deadline of any message that is OUT; EMPTY if none is");
        LeasedMessages x = new LeasedMessages();
        due("with no message", x.nextDeadline(), EMPTY);
        publishMany(x, 0, 2);
        x.publish(1, 1, 0, 0);
        due("with none OUT", x.nextDeadline(), EMPTY);
        x.take(0, 0);
        due("with one OUT", x.nextDeadline(), 5);
        x.take(0, 0);
        due("with two of the same deadline", x.nextDeadline(), 5);
        x.tune(1, 4, 3);
        x.take(1, 1);
        due("with an earlier one", x.nextDeadline(), 4);
        x.tune(1, 6, 3);
        x.renew(1, 2);
        due("with a later one", x.nextDeadline(), 5);
        x.refuse(0, 0);
        due("with one of the same gone", x.nextDeadline(), 5);
        x.acknowledge(0, 1);
        due("with the last one", x.nextDeadline(), 6);
        x.lose(1);
        due("with none OUT any more", x.nextDeadline(), EMPTY);
    }

    private static void nextDeadlineFarOn() {
        about("nextDeadline: after much time");
        LeasedMessages x = new LeasedMessages();
        for (int i = 0; i < 500; i++) {
            x.pass(100);
        }
        x.tune(0, 20, 3);
        publishMany(x, 0, 1);
        x.take(0, 0);
        due("nextDeadline", x.nextDeadline(), 50020);
        due("pass(19)", x.pass(19), 0);
        due("pass(1)", x.pass(1), 1);
    }

    private static void sumOfFirstAndLastState() {
        about("sum: of all messages in a state (0 to 3); 0 for any other number");
        LeasedMessages x = new LeasedMessages();
        x.tune(0, 5, 1);
        for (int message = 0; message < 4; message++) {
            x.publish(0, 1 << message, 0, 0);
        }
        x.take(0, 0);
        x.take(0, 0);
        x.take(0, 1);
        x.acknowledge(0, 0);
        x.refuse(0, 1);
        due("sum(-1)", x.sum(-1), 0);
        due("sum(0)", x.sum(0), 8);
        due("sum(1)", x.sum(1), 4);
        due("sum(2)", x.sum(2), 1);
        due("sum(3)", x.sum(3), 2);
        due("sum(4)", x.sum(4), 0);
        due("sum(MIN)", x.sum(MIN), 0);
        due("sum(MAX)", x.sum(MAX), 0);
    }

    private static void sumWrapsUpwards() {
        about("sum: (wrapping), over the greatest int");
        LeasedMessages x = new LeasedMessages();
        x.publish(0, MAX - 1, 0, 0);
        x.publish(1, 1, 0, 0);
        due("sum at the greatest int", x.sum(READY), MAX);
        x.publish(2, 1, 0, 0);
        due("sum one above it", x.sum(READY), MIN);
        x.publish(0, MAX, 0, 0);
        due("sum with the greatest once more", x.sum(READY), -1);
        x.publish(0, MAX, 0, 0);
        due("sum of three times the greatest", x.sum(READY), MAX - 1);
    }

    private static void sumWrapsDownwards() {
        about("sum: (wrapping), under the least int");
        LeasedMessages x = new LeasedMessages();
        x.publish(0, MIN + 1, 0, 0);
        x.publish(1, -1, 0, 0);
        due("sum at the least int", x.sum(READY), MIN);
        x.publish(2, -1, 0, 0);
        due("sum one below it", x.sum(READY), MAX);
        x.publish(0, MIN, 0, 0);
        due("sum with the least once more", x.sum(READY), -1);
    }

    private static void sumOfNone() {
        about("sum: 0 where no message is in the state");
        LeasedMessages x = new LeasedMessages();
        for (int state = 0; state < 4; state++) {
            due("sum(" + state + ") of no message", x.sum(state), 0);
        }
        x.publish(0, 7, 0, 0);
        due("sum(READY)", x.sum(READY), 7);
        for (int state = 1; state < 4; state++) {
            due("sum(" + state + ") of one READY message", x.sum(state), 0);
        }
    }

    // ---- Promise 17, and the term WHEN A MESSAGE COMES BACK ----

    private static void comingBack() {
        for (int way = 0; way < 3; way++) {
            comesBackAgainstTheLimit(way);
            comesBackAboveTheLimit(way);
            comesBackUnderARaisedLimit(way);
            comesBackInItsPlace(way);
        }
        revivedStandsInItsPlace();
        loweredLimitKillsNoneAtOnce();
    }

    // The three ways of the document: its deadline has come, it is refused, its consumer is gone.
    private static void bringBack(LeasedMessages x, int way, int consumer, int message) {
        if (way == 0) {
            due("pass", x.pass(20), 1);
        } else if (way == 1) {
            x.refuse(consumer, message);
        } else {
            due("lose", x.lose(consumer), 1);
        }
    }

    private static void comesBackAgainstTheLimit(int way) {
        about("comes back: delivered as often as its queue's limit says then, it is DEAD; way " + way);
        for (int limit = 1; limit <= 5; limit++) {
            LeasedMessages x = new LeasedMessages();
            x.tune(2, 20, limit);
            publishMany(x, 2, 1);
            for (int delivery = 1; delivery < limit; delivery++) {
                x.take(2, 1);
                bringBack(x, way, 1, 0);
                due("state after delivery " + delivery, x.state(0), READY);
            }
            x.take(2, 1);
            due("state OUT on the last delivery", x.state(0), OUT);
            bringBack(x, way, 1, 0);
            due("state after the last delivery", x.state(0), DEAD);
        }
    }

    private static void comesBackAboveTheLimit(int way) {
        about("or more often (when the limit has become less); way " + way);
        for (int limit = 1; limit <= 5; limit++) {
            LeasedMessages x = new LeasedMessages();
            x.tune(0, 20, 5);
            publishMany(x, 0, 1);
            deliver(x, 0, 0, 3);
            x.take(0, 1);
            x.tune(0, 20, limit);
            bringBack(x, way, 1, 0);
            due("state with 4 deliveries, limit " + limit, x.state(0), limit <= 4 ? DEAD : READY);
        }
    }

    private static void comesBackUnderARaisedLimit(int way) {
        about("as its queue's limit says then (when the limit has become more); way " + way);
        LeasedMessages x = new LeasedMessages();
        x.tune(0, 20, 1);
        publishMany(x, 0, 1);
        x.take(0, 2);
        x.tune(0, 20, 2);
        bringBack(x, way, 2, 0);
        due("state with 1 delivery, limit 2", x.state(0), READY);
        x.take(0, 2);
        bringBack(x, way, 2, 0);
        due("state with 2 deliveries, limit 2", x.state(0), DEAD);
    }

    private static void comesBackInItsPlace(int way) {
        about("THE ORDER: whatever happened to a message meanwhile; way " + way);
        LeasedMessages x = new LeasedMessages();
        x.tune(0, 20, 5);
        x.publish(0, 1, 1, 0);
        x.publish(0, 1, 2, 0);
        x.publish(0, 1, 2, 0);
        x.publish(0, 1, 2, 0);
        x.take(0, 0);
        due("peek while it is OUT", x.peek(0, 0), 2);
        bringBack(x, way, 0, 1);
        int[] order = {1, 2, 3, 0};
        for (int i = 0; i < 4; i++) {
            due("peek(0, " + i + ")", x.peek(0, i), order[i]);
        }
    }

    private static void revivedStandsInItsPlace() {
        about("THE ORDER: whatever happened to a message meanwhile; revived");
        LeasedMessages x = new LeasedMessages();
        x.tune(0, 5, 1);
        for (int priority : new int[] {0, 3, 0, 3}) {
            x.publish(0, 1, priority, 0);
        }
        for (int message : new int[] {1, 3, 0}) {
            due("take", x.take(0, 0), message);
            x.refuse(0, message);
        }
        due("revive", x.revive(0), 3);
        int[] order = {1, 3, 0, 2};
        for (int i = 0; i < 4; i++) {
            due("peek(0, " + i + ")", x.peek(0, i), order[i]);
        }
    }

    private static void loweredLimitKillsNoneAtOnce() {
        about("A message that comes back is DEAD; one that is READY under a lowered limit is not");
        LeasedMessages x = new LeasedMessages();
        x.tune(0, 5, 5);
        publishMany(x, 0, 1);
        deliver(x, 0, 0, 4);
        x.tune(0, 5, 1);
        due("state", x.state(0), READY);
        due("pass", x.pass(100), 0);
        due("state after pass", x.state(0), READY);
        due("take", x.take(0, 0), 0);
        due("state OUT", x.state(0), OUT);
        x.tune(0, 5, 5);
        due("refuse after 5 deliveries, limit 5", x.refuse(0, 0), DEAD);
    }
}
