// For each promise: ordinary inputs, the edges that the document names, and wrong inputs.
public final class PromiseTests {
    private static final int BAD_QUEUE = -1;
    private static final int BAD_CONSUMER = -2;
    private static final int BAD_NUMBER = -3;
    private static final int FULL = -4;
    private static final int EMPTY = -5;
    private static final int NOT_OUT = -6;
    private static final int BUSY = -7;
    private static final int READY = 0;
    private static final int OUT = 1;
    private static final int DONE = 2;
    private static final int DEAD = 3;

    private static final int[] OUTSIDE_0_TO_2 = {-1, 3, Integer.MIN_VALUE, Integer.MAX_VALUE};

    private static int wrong = 0;

    public static void main(String[] args) {
        newObject();
        publishNumbersMessages();
        publishRefusesWrongInputs();
        publishIsFullAtForty();
        takeDelivers();
        takeFollowsTheOrder();
        takeRefusesWrongInputs();
        takeAllowsTwoOut();
        acknowledgeEndsAMessage();
        refuseBringsBack();
        refuseBringsDeathAtTheLimit();
        loseBringsAllBack();
        loseCountsTheDeadToo();
        renewSetsTheDeadline();
        renewUsesThePatienceOfTheMessagesQueue();
        passBringsBackAtTheDeadline();
        passExpiresReadyMessages();
        passExpiresAfterTheComingBack();
        passRefusesWrongInputs();
        tuneSetsPatienceAndLimit();
        tuneRefusesWrongInputs();
        reviveMakesReadyWithNoDeliveries();
        clearDropsMessagesAlone();
        clearDropsMessagesThatAreOut();
        fullBrokerAnswersEveryCall();
        stateOfMessages();
        readyCounts();
        peekFollowsTheOrder();
        nextDeadlineIsTheEarliest();
        sumAddsBodies();
        testsAreMadeInOrder();
        limitThatBecameLess();
        readingChangesNothing();
        if (wrong > 0) {
            System.exit(1);
        }
    }

    private static void due(String call, long got, long want) {
        if (got != want) {
            wrong++;
            System.out.println(call + " answered " + got + ", due is " + want);
        }
    }

    private static void newObject() {
        LeasedMessages x = new LeasedMessages();
        for (int queue = 0; queue < 3; queue++) {
            due("new: ready", x.ready(queue), 0);
            due("new: peek", x.peek(queue, 0), EMPTY);
            due("new: take", x.take(queue, 0), EMPTY);
            due("new: revive", x.revive(queue), 0);
        }
        for (int consumer = 0; consumer < 3; consumer++) {
            due("new: acknowledge", x.acknowledge(consumer, 0), NOT_OUT);
            due("new: refuse", x.refuse(consumer, 0), NOT_OUT);
            due("new: renew", x.renew(consumer, 0), NOT_OUT);
            due("new: lose", x.lose(consumer), 0);
        }
        for (int state = 0; state < 4; state++) {
            due("new: sum", x.sum(state), 0);
        }
        due("new: state(0)", x.state(0), BAD_NUMBER);
        due("new: nextDeadline", x.nextDeadline(), EMPTY);
        due("new: pass", x.pass(0), 0);
        for (int queue = 0; queue < 3; queue++) {
            firstPatienceAndLimit(queue);
        }
    }

    private static void firstPatienceAndLimit(int queue) {
        LeasedMessages x = new LeasedMessages();
        x.publish(queue, 1, 0, 0);
        x.take(queue, 0);
        due("new: time 0, patience 5", x.nextDeadline(), 5);
        due("new: first delivery", x.refuse(0, 0), READY);
        x.take(queue, 0);
        due("new: second delivery", x.refuse(0, 0), READY);
        x.take(queue, 0);
        due("new: third delivery, limit 3", x.refuse(0, 0), DEAD);
    }

    private static void publishNumbersMessages() {
        LeasedMessages x = new LeasedMessages();
        due("publish: first", x.publish(2, 7, 0, 0), 0);
        due("publish: second", x.publish(0, -7, 3, 50), 1);
        due("publish: third", x.publish(1, Integer.MIN_VALUE, 1, 1), 2);
        for (int message = 0; message < 3; message++) {
            due("publish: state", x.state(message), READY);
        }
        due("publish: in its queue", x.peek(2, 0), 0);
        due("publish: in its queue", x.peek(0, 0), 1);
        due("publish: in its queue", x.peek(1, 0), 2);
    }

    private static void publishRefusesWrongInputs() {
        LeasedMessages x = new LeasedMessages();
        for (int queue : OUTSIDE_0_TO_2) {
            due("publish: queue " + queue, x.publish(queue, 1, 0, 0), BAD_QUEUE);
        }
        for (int priority : new int[] {-1, 4, Integer.MIN_VALUE, Integer.MAX_VALUE}) {
            due("publish: priority " + priority, x.publish(0, 1, priority, 0), BAD_NUMBER);
        }
        for (int life : new int[] {-1, 51, Integer.MIN_VALUE, Integer.MAX_VALUE}) {
            due("publish: life " + life, x.publish(0, 1, 0, life), BAD_NUMBER);
        }
        due("publish: nothing has changed", x.ready(0), 0);
        due("publish: no number was used", x.publish(0, 1, 0, 0), 0);
    }

    private static void publishIsFullAtForty() {
        LeasedMessages x = new LeasedMessages();
        for (int i = 0; i < 40; i++) {
            due("publish: number " + i, x.publish(i % 3, 1, 0, 0), i);
        }
        due("publish: the 41st", x.publish(0, 1, 0, 0), FULL);
        due("publish: full changes nothing", x.sum(READY), 40);
        due("publish: full, last message", x.state(39), READY);
        due("publish: full, no message 40", x.state(40), BAD_NUMBER);
        x.take(0, 0);
        x.acknowledge(0, 0);
        due("publish: a DONE message still counts", x.publish(0, 1, 0, 0), FULL);
        x.clear();
        for (int i = 0; i < 40; i++) {
            due("publish: after clear, number " + i, x.publish(0, 1, 0, 0), i);
        }
        due("publish: after clear, the 41st", x.publish(0, 1, 0, 0), FULL);
    }

    private static void takeDelivers() {
        LeasedMessages x = new LeasedMessages();
        x.tune(1, 7, 2);
        x.pass(10);
        x.publish(1, 5, 0, 0);
        due("take: the message", x.take(1, 2), 0);
        due("take: OUT", x.state(0), OUT);
        due("take: no longer ready", x.ready(1), 0);
        due("take: deadline", x.nextDeadline(), 17);
        due("take: with no other consumer", x.acknowledge(1, 0), NOT_OUT);
        due("take: nothing more", x.take(1, 0), EMPTY);
        due("take: other queues have none", x.take(0, 0), EMPTY);
        due("take: one delivery", x.refuse(2, 0), READY);
        x.take(1, 0);
        due("take: another delivery", x.refuse(0, 0), DEAD);
        due("take: a DEAD message is not taken", x.take(1, 0), EMPTY);
    }

    private static void takeFollowsTheOrder() {
        LeasedMessages x = new LeasedMessages();
        x.publish(0, 1, 1, 0);
        x.publish(0, 1, 3, 0);
        x.publish(0, 1, 0, 0);
        x.publish(0, 1, 3, 0);
        x.publish(1, 1, 3, 0);
        x.publish(0, 1, 2, 0);
        due("order: greatest priority, smaller number", x.take(0, 0), 1);
        due("order: greatest priority, greater number", x.take(0, 0), 3);
        due("order: priority 2", x.take(0, 1), 5);
        due("order: priority 1", x.take(0, 1), 0);
        due("order: priority 0", x.take(0, 2), 2);
        x.refuse(0, 3);
        x.refuse(0, 1);
        due("order: the number counts, not the coming back", x.take(0, 0), 1);
        due("order: then the other", x.take(0, 0), 3);
    }

    private static void takeRefusesWrongInputs() {
        LeasedMessages x = new LeasedMessages();
        x.publish(0, 1, 0, 0);
        x.publish(2, 1, 0, 0);
        for (int bad : OUTSIDE_0_TO_2) {
            due("take: queue " + bad, x.take(bad, 0), BAD_QUEUE);
            due("take: consumer " + bad, x.take(0, bad), BAD_CONSUMER);
        }
        due("take: nothing has changed", x.sum(READY), 2);
        due("take: none is OUT", x.nextDeadline(), EMPTY);
        due("take: greatest queue and consumer", x.take(2, 2), 1);
    }

    private static void takeAllowsTwoOut() {
        LeasedMessages x = new LeasedMessages();
        for (int i = 0; i < 4; i++) {
            x.publish(i % 2, 1, 0, 0);
        }
        due("busy: one OUT", x.take(0, 1), 0);
        due("busy: two OUT, over all queues", x.take(1, 1), 1);
        due("busy: a third", x.take(0, 1), BUSY);
        due("busy: nothing has changed", x.state(2), READY);
        due("busy: another consumer", x.take(0, 0), 2);
        x.acknowledge(1, 0);
        due("busy: after acknowledge", x.take(1, 1), 3);
        due("busy: again", x.take(1, 1), BUSY);
        x.refuse(1, 1);
        due("busy: after refuse", x.take(1, 1), 1);
        x.lose(1);
        due("busy: after lose", x.take(1, 1), 1);
        due("busy: after lose, second", x.take(1, 1), 3);
        x.pass(5);
        due("busy: after pass, none left alive but 3", x.take(1, 1), 3);
        x.clear();
        x.publish(0, 1, 0, 0);
        x.publish(0, 1, 0, 0);
        due("busy: after clear", x.take(0, 1), 0);
        due("busy: after clear, second", x.take(0, 1), 1);
    }

    private static void acknowledgeEndsAMessage() {
        LeasedMessages x = new LeasedMessages();
        x.publish(0, 1, 0, 0);
        x.publish(1, 1, 0, 0);
        x.publish(0, 1, 0, 0);
        x.take(0, 0);
        x.take(1, 0);
        x.take(0, 1);
        for (int consumer : OUTSIDE_0_TO_2) {
            due("acknowledge: consumer " + consumer, x.acknowledge(consumer, 0), BAD_CONSUMER);
        }
        for (int message : new int[] {-1, 3, 39, 40, Integer.MIN_VALUE, Integer.MAX_VALUE}) {
            due("acknowledge: message " + message, x.acknowledge(0, message), NOT_OUT);
        }
        due("acknowledge: another's", x.acknowledge(0, 2), NOT_OUT);
        due("acknowledge: another's stays OUT", x.state(2), OUT);
        due("acknowledge: one is left", x.acknowledge(0, 1), 1);
        due("acknowledge: DONE", x.state(1), DONE);
        due("acknowledge: none is left", x.acknowledge(0, 0), 0);
        due("acknowledge: twice", x.acknowledge(0, 0), NOT_OUT);
        x.pass(5);
        due("acknowledge: stays DONE", x.state(0), DONE);
        due("acknowledge: late", x.acknowledge(1, 2), NOT_OUT);
        due("acknowledge: READY", x.state(2), READY);
    }

    private static void refuseBringsBack() {
        LeasedMessages x = new LeasedMessages();
        x.publish(1, 1, 0, 0);
        x.publish(1, 1, 0, 0);
        due("refuse: a READY message", x.refuse(0, 0), NOT_OUT);
        x.take(1, 0);
        for (int consumer : OUTSIDE_0_TO_2) {
            due("refuse: consumer " + consumer, x.refuse(consumer, 0), BAD_CONSUMER);
        }
        for (int message : new int[] {-1, 1, 2, 40, Integer.MIN_VALUE, Integer.MAX_VALUE}) {
            due("refuse: message " + message, x.refuse(0, message), NOT_OUT);
        }
        due("refuse: another's", x.refuse(1, 0), NOT_OUT);
        due("refuse: nothing has changed", x.state(0), OUT);
        due("refuse: the state", x.refuse(0, 0), READY);
        due("refuse: READY", x.state(0), READY);
        due("refuse: in its queue, in its place", x.peek(1, 0), 0);
        due("refuse: no deadline", x.nextDeadline(), EMPTY);
        due("refuse: twice", x.refuse(0, 0), NOT_OUT);
    }

    private static void refuseBringsDeathAtTheLimit() {
        LeasedMessages x = new LeasedMessages();
        x.tune(0, 5, 1);
        x.tune(2, 5, 5);
        x.publish(0, 1, 0, 0);
        x.publish(2, 1, 0, 0);
        x.take(0, 0);
        due("refuse: limit 1", x.refuse(0, 0), DEAD);
        for (int i = 1; i < 5; i++) {
            x.take(2, 0);
            due("refuse: limit 5, delivery " + i, x.refuse(0, 1), READY);
        }
        x.take(2, 0);
        due("refuse: limit 5, last delivery", x.refuse(0, 1), DEAD);
        due("refuse: DEAD", x.state(1), DEAD);
        due("refuse: DEAD is not ready", x.ready(2), 0);
    }

    private static void loseBringsAllBack() {
        LeasedMessages x = new LeasedMessages();
        for (int i = 0; i < 4; i++) {
            x.publish(i % 2, 1, 0, 0);
        }
        x.take(0, 2);
        x.take(1, 2);
        x.take(0, 1);
        for (int consumer : OUTSIDE_0_TO_2) {
            due("lose: consumer " + consumer, x.lose(consumer), BAD_CONSUMER);
        }
        due("lose: none", x.lose(0), 0);
        due("lose: two", x.lose(2), 2);
        due("lose: back in queue 0", x.peek(0, 0), 0);
        due("lose: back in queue 1", x.peek(1, 0), 1);
        due("lose: another's stays OUT", x.state(2), OUT);
        due("lose: none is left", x.lose(2), 0);
        due("lose: one", x.lose(1), 1);
        due("lose: the consumer may take again", x.take(0, 2), 0);
    }

    private static void loseCountsTheDeadToo() {
        LeasedMessages x = new LeasedMessages();
        x.tune(0, 5, 1);
        x.publish(0, 1, 0, 0);
        x.publish(1, 1, 0, 0);
        x.take(0, 0);
        x.take(1, 0);
        due("lose: DEAD and READY", x.lose(0), 2);
        due("lose: DEAD by its own queue's limit", x.state(0), DEAD);
        due("lose: READY by its own queue's limit", x.state(1), READY);
    }

    private static void renewSetsTheDeadline() {
        LeasedMessages x = new LeasedMessages();
        x.publish(0, 1, 0, 0);
        x.publish(0, 1, 0, 0);
        due("renew: a READY message", x.renew(0, 0), NOT_OUT);
        x.take(0, 0);
        x.pass(3);
        for (int consumer : OUTSIDE_0_TO_2) {
            due("renew: consumer " + consumer, x.renew(consumer, 0), BAD_CONSUMER);
        }
        for (int message : new int[] {-1, 1, 2, 40, Integer.MIN_VALUE, Integer.MAX_VALUE}) {
            due("renew: message " + message, x.renew(0, message), NOT_OUT);
        }
        due("renew: another's", x.renew(1, 0), NOT_OUT);
        due("renew: nothing has changed", x.nextDeadline(), 5);
        due("renew: the deadline", x.renew(0, 0), 8);
        due("renew: it is set", x.nextDeadline(), 8);
        due("renew: not back at the old deadline", x.pass(4), 0);
        due("renew: back at the new one", x.pass(1), 1);
        due("renew: too late", x.renew(0, 0), NOT_OUT);
        x.take(0, 0);
        due("renew: is no delivery", x.refuse(0, 0), READY);
    }

    private static void renewUsesThePatienceOfTheMessagesQueue() {
        LeasedMessages x = new LeasedMessages();
        x.tune(1, 20, 3);
        x.publish(1, 1, 0, 0);
        x.take(1, 0);
        due("renew: patience 20", x.renew(0, 0), 20);
        x.tune(1, 1, 3);
        due("renew: a deadline may become earlier", x.renew(0, 0), 1);
        due("renew: and is kept", x.pass(1), 1);
    }

    private static void passBringsBackAtTheDeadline() {
        LeasedMessages x = new LeasedMessages();
        x.tune(1, 4, 1);
        x.tune(2, 20, 3);
        x.publish(0, 1, 0, 0);
        x.publish(1, 1, 0, 0);
        x.publish(2, 1, 0, 0);
        x.take(0, 0);
        x.take(1, 0);
        x.take(2, 1);
        due("pass: before any deadline", x.pass(3), 0);
        due("pass: at a deadline, DEAD counts", x.pass(1), 1);
        due("pass: DEAD at its queue's limit", x.state(1), DEAD);
        due("pass: the other is OUT", x.state(0), OUT);
        due("pass: at the next deadline", x.pass(1), 1);
        due("pass: READY", x.state(0), READY);
        due("pass: in its queue", x.peek(0, 0), 0);
        due("pass: after the deadline", x.pass(100), 1);
        due("pass: no deadline", x.nextDeadline(), EMPTY);
        due("pass: nothing more", x.pass(100), 0);
        x.take(0, 0);
        due("pass: the time", x.nextDeadline(), 210);
    }

    private static void passExpiresReadyMessages() {
        LeasedMessages x = new LeasedMessages();
        x.pass(10);
        x.publish(0, 1, 0, 0);
        x.publish(0, 2, 0, 1);
        x.publish(1, 4, 0, 50);
        x.publish(2, 8, 0, 2);
        x.pass(0);
        due("expire: none by pass(0)", x.sum(READY), 15);
        due("expire: is no coming back", x.pass(1), 0);
        due("expire: life 1 is DONE", x.state(1), DONE);
        due("expire: others are READY", x.sum(READY), 13);
        x.pass(48);
        due("expire: life 2 is DONE", x.state(3), DONE);
        due("expire: life 50 is READY one before", x.state(2), READY);
        x.pass(1);
        due("expire: life 50 is DONE", x.state(2), DONE);
        x.pass(100);
        due("expire: life 0 stays", x.state(0), READY);
    }

    private static void passExpiresAfterTheComingBack() {
        LeasedMessages x = new LeasedMessages();
        x.tune(1, 5, 1);
        x.publish(0, 1, 0, 3);
        x.publish(1, 1, 0, 3);
        x.publish(2, 1, 0, 3);
        x.take(0, 0);
        x.take(1, 0);
        x.take(2, 1);
        x.pass(4);
        due("expire: an OUT message stays OUT", x.state(0), OUT);
        due("expire: refused", x.refuse(1, 2), READY);
        due("expire: READY until the next pass", x.state(2), READY);
        due("expire: in its queue until then", x.peek(2, 0), 2);
        due("expire: pass(0)", x.pass(0), 0);
        due("expire: DONE by pass(0)", x.state(2), DONE);
        due("expire: those that come back", x.pass(1), 2);
        due("expire: came back and is DONE", x.state(0), DONE);
        due("expire: a DEAD message stays DEAD", x.state(1), DEAD);
        due("expire: revived", x.revive(1), 1);
        due("expire: READY again", x.state(1), READY);
        x.pass(0);
        due("expire: DONE then", x.state(1), DONE);
    }

    private static void passRefusesWrongInputs() {
        LeasedMessages x = new LeasedMessages();
        x.publish(0, 1, 0, 1);
        for (int n : new int[] {-1, 101, Integer.MIN_VALUE, Integer.MAX_VALUE}) {
            due("pass: n " + n, x.pass(n), BAD_NUMBER);
        }
        due("pass: nothing has changed", x.state(0), READY);
        x.take(0, 0);
        due("pass: the time has not changed", x.nextDeadline(), 5);
        due("pass: 0", x.pass(0), 0);
        due("pass: 100", x.pass(100), 1);
    }

    private static void tuneSetsPatienceAndLimit() {
        LeasedMessages x = new LeasedMessages();
        for (int i = 0; i < 4; i++) {
            x.publish(0, 1, 0, 0);
        }
        x.publish(1, 1, 0, 0);
        x.take(0, 0);
        due("tune: the answer", x.tune(0, 20, 5), 0);
        due("tune: deadlines that are set stay", x.nextDeadline(), 5);
        x.take(0, 0);
        x.acknowledge(0, 0);
        due("tune: the new patience", x.nextDeadline(), 20);
        due("tune: least", x.tune(0, 1, 1), 0);
        due("tune: the deadline stays", x.nextDeadline(), 20);
        due("tune: the new limit is for those OUT", x.refuse(0, 1), DEAD);
        x.take(0, 0);
        due("tune: the new patience, 1", x.nextDeadline(), 1);
        x.lose(0);
        x.take(1, 0);
        due("tune: other queues keep their patience", x.nextDeadline(), 5);
        due("tune: other queues keep their limit", x.refuse(0, 4), READY);
        x.tune(0, 5, 5);
        due("tune: the DEAD stay DEAD", x.state(1), DEAD);
    }

    private static void tuneRefusesWrongInputs() {
        LeasedMessages x = new LeasedMessages();
        for (int queue : OUTSIDE_0_TO_2) {
            due("tune: queue " + queue, x.tune(queue, 1, 1), BAD_QUEUE);
        }
        for (int patience : new int[] {0, -1, 21, Integer.MIN_VALUE, Integer.MAX_VALUE}) {
            due("tune: patience " + patience, x.tune(0, patience, 1), BAD_NUMBER);
        }
        for (int limit : new int[] {0, -1, 6, Integer.MIN_VALUE, Integer.MAX_VALUE}) {
            due("tune: limit " + limit, x.tune(0, 1, limit), BAD_NUMBER);
        }
        x.publish(0, 1, 0, 0);
        x.take(0, 0);
        due("tune: patience has not changed", x.nextDeadline(), 5);
        due("tune: limit has not changed", x.refuse(0, 0), READY);
    }

    private static void reviveMakesReadyWithNoDeliveries() {
        LeasedMessages x = new LeasedMessages();
        x.tune(0, 5, 2);
        x.tune(1, 5, 1);
        x.publish(0, 1, 0, 0);
        x.publish(1, 1, 0, 0);
        x.publish(1, 1, 3, 0);
        x.publish(1, 1, 0, 0);
        x.take(0, 0);
        x.refuse(0, 0);
        x.take(0, 0);
        x.refuse(0, 0);
        x.take(1, 0);
        x.take(1, 0);
        x.lose(0);
        x.take(1, 0);
        for (int queue : OUTSIDE_0_TO_2) {
            due("revive: queue " + queue, x.revive(queue), BAD_QUEUE);
        }
        due("revive: none", x.revive(2), 0);
        due("revive: two", x.revive(1), 2);
        due("revive: in order", x.peek(1, 0), 2);
        due("revive: in order", x.peek(1, 1), 1);
        due("revive: OUT stays OUT", x.state(3), OUT);
        due("revive: other queues stay", x.state(0), DEAD);
        due("revive: twice", x.revive(1), 0);
        due("revive: one", x.revive(0), 1);
        x.take(0, 0);
        due("revive: deliveries begin anew", x.refuse(0, 0), READY);
        x.take(0, 0);
        due("revive: and reach the limit", x.refuse(0, 0), DEAD);
        x.acknowledge(0, 3);
        due("revive: a DONE message stays", x.revive(1), 0);
        due("revive: DONE", x.state(3), DONE);
    }

    private static void clearDropsMessagesAlone() {
        LeasedMessages x = new LeasedMessages();
        x.tune(0, 9, 1);
        x.publish(0, 1, 3, 1);
        x.publish(0, 2, 0, 0);
        x.publish(0, 4, 0, 0);
        x.publish(0, 8, 0, 0);
        x.take(0, 0);
        x.take(0, 0);
        x.take(0, 1);
        x.refuse(0, 0);
        x.acknowledge(0, 1);
        x.pass(7);
        x.clear();
        for (int state = 0; state < 4; state++) {
            due("clear: sum", x.sum(state), 0);
        }
        due("clear: state", x.state(0), BAD_NUMBER);
        due("clear: ready", x.ready(0), 0);
        due("clear: peek", x.peek(0, 0), EMPTY);
        due("clear: take", x.take(0, 0), EMPTY);
        due("clear: nextDeadline", x.nextDeadline(), EMPTY);
        due("clear: acknowledge", x.acknowledge(1, 2), NOT_OUT);
        due("clear: lose", x.lose(1), 0);
        due("clear: revive", x.revive(0), 0);
        due("clear: pass", x.pass(1), 0);
        due("clear: numbers begin anew", x.publish(0, 16, 0, 2), 0);
        due("clear: READY", x.state(0), READY);
        due("clear: only the new one", x.state(1), BAD_NUMBER);
        x.pass(1);
        due("clear: its own life", x.state(0), READY);
        due("clear: taken", x.take(0, 0), 0);
        due("clear: time and patience stay", x.nextDeadline(), 18);
        due("clear: the limit stays", x.refuse(0, 0), DEAD);
        x.clear();
        x.tune(0, 9, 2);
        x.publish(0, 1, 0, 0);
        x.take(0, 0);
        due("clear: deliveries begin anew", x.refuse(0, 0), READY);
    }

    private static void clearDropsMessagesThatAreOut() {
        LeasedMessages x = new LeasedMessages();
        x.publish(0, 1, 0, 0);
        x.publish(0, 1, 0, 0);
        x.take(0, 0);
        x.take(0, 0);
        x.clear();
        due("clear: no deadline is left", x.nextDeadline(), EMPTY);
        x.publish(0, 1, 0, 0);
        due("clear: none beside the new one", x.nextDeadline(), EMPTY);
        due("clear: none comes back", x.pass(5), 0);
        due("clear: not OUT any more", x.refuse(0, 1), NOT_OUT);
        due("clear: the new one alone is ready", x.ready(0), 1);
    }

    private static void fullBrokerAnswersEveryCall() {
        LeasedMessages x = new LeasedMessages();
        x.tune(0, 5, 1);
        for (int i = 0; i < 39; i++) {
            x.publish(0, 1, 0, 0);
        }
        x.publish(0, 1, 1, 3);
        due("full: peek first", x.peek(0, 0), 39);
        due("full: peek last", x.peek(0, 39), 38);
        due("full: peek behind the last", x.peek(0, 40), EMPTY);
        due("full: ready", x.ready(0), 40);
        due("full: take", x.take(0, 0), 39);
        due("full: take", x.take(0, 0), 0);
        due("full: nextDeadline", x.nextDeadline(), 5);
        due("full: renew", x.renew(0, 39), 5);
        due("full: lose", x.lose(0), 2);
        due("full: revive", x.revive(0), 2);
        due("full: pass", x.pass(3), 0);
        due("full: the last one expires", x.state(39), DONE);
        due("full: sum", x.sum(READY), 39);
    }

    private static void stateOfMessages() {
        LeasedMessages x = new LeasedMessages();
        x.tune(0, 5, 1);
        for (int i = 0; i < 4; i++) {
            x.publish(0, 1, 0, 0);
        }
        x.take(0, 0);
        x.take(0, 0);
        x.take(0, 1);
        x.acknowledge(0, 0);
        x.refuse(0, 1);
        due("state: DONE", x.state(0), DONE);
        due("state: DEAD", x.state(1), DEAD);
        due("state: OUT", x.state(2), OUT);
        due("state: READY", x.state(3), READY);
        for (int message : new int[] {-1, 4, 39, 40, Integer.MIN_VALUE, Integer.MAX_VALUE}) {
            due("state: message " + message, x.state(message), BAD_NUMBER);
        }
    }

    private static void readyCounts() {
        LeasedMessages x = new LeasedMessages();
        x.tune(1, 5, 1);
        for (int i = 0; i < 5; i++) {
            x.publish(1, 1, i % 4, 0);
        }
        x.publish(2, 1, 0, 0);
        due("ready: five", x.ready(1), 5);
        due("ready: one", x.ready(2), 1);
        due("ready: none", x.ready(0), 0);
        x.take(1, 0);
        x.take(1, 0);
        due("ready: OUT does not count", x.ready(1), 3);
        x.refuse(0, 3);
        due("ready: DEAD does not count", x.ready(1), 3);
        x.acknowledge(0, 2);
        due("ready: DONE does not count", x.ready(1), 3);
        x.revive(1);
        due("ready: revived counts", x.ready(1), 4);
        for (int queue : OUTSIDE_0_TO_2) {
            due("ready: queue " + queue, x.ready(queue), BAD_QUEUE);
        }
    }

    private static void peekFollowsTheOrder() {
        LeasedMessages x = new LeasedMessages();
        int[] priorities = {0, 2, 3, 2, 1, 0, 3};
        for (int priority : priorities) {
            x.publish(1, 1, priority, 0);
        }
        x.publish(0, 1, 3, 0);
        int[] order = {2, 6, 1, 3, 4, 0, 5};
        for (int i = 0; i < order.length; i++) {
            due("peek: place " + i, x.peek(1, i), order[i]);
        }
        for (int i : new int[] {-1, 7, 40, Integer.MIN_VALUE, Integer.MAX_VALUE}) {
            due("peek: place " + i, x.peek(1, i), EMPTY);
        }
        for (int queue : OUTSIDE_0_TO_2) {
            due("peek: queue " + queue, x.peek(queue, 0), BAD_QUEUE);
        }
        x.take(1, 0);
        due("peek: OUT messages have no place", x.peek(1, 0), 6);
        due("peek: the last place is gone", x.peek(1, 6), EMPTY);
        x.refuse(0, 2);
        due("peek: back in its place", x.peek(1, 0), 2);
    }

    private static void nextDeadlineIsTheEarliest() {
        LeasedMessages x = new LeasedMessages();
        x.tune(0, 10, 3);
        x.tune(1, 3, 3);
        x.tune(2, 6, 3);
        for (int queue = 0; queue < 3; queue++) {
            x.publish(queue, 1, 0, 0);
        }
        due("nextDeadline: none is OUT", x.nextDeadline(), EMPTY);
        x.take(0, 0);
        due("nextDeadline: one", x.nextDeadline(), 10);
        x.take(1, 1);
        due("nextDeadline: the earlier", x.nextDeadline(), 3);
        x.take(2, 2);
        due("nextDeadline: a later one does not count", x.nextDeadline(), 3);
        x.acknowledge(1, 1);
        due("nextDeadline: DONE does not count", x.nextDeadline(), 6);
        x.refuse(2, 2);
        due("nextDeadline: READY does not count", x.nextDeadline(), 10);
        x.pass(10);
        due("nextDeadline: none is OUT any more", x.nextDeadline(), EMPTY);
    }

    private static void sumAddsBodies() {
        LeasedMessages x = new LeasedMessages();
        x.tune(1, 5, 1);
        x.publish(0, Integer.MAX_VALUE, 0, 0);
        x.publish(2, 1, 0, 0);
        due("sum: wraps", x.sum(READY), Integer.MIN_VALUE);
        x.publish(1, 10, 3, 0);
        x.publish(1, -300, 2, 0);
        x.publish(1, 7000, 1, 0);
        x.publish(1, 50, 0, 1);
        x.take(1, 0);
        x.take(1, 0);
        x.take(1, 1);
        due("sum: OUT", x.sum(OUT), 6710);
        x.acknowledge(0, 2);
        x.refuse(0, 3);
        due("sum: OUT, one left", x.sum(OUT), 7000);
        due("sum: DONE", x.sum(DONE), 10);
        due("sum: DEAD", x.sum(DEAD), -300);
        x.pass(1);
        due("sum: DONE with the expired", x.sum(DONE), 60);
        due("sum: READY over all queues", x.sum(READY), Integer.MIN_VALUE);
        for (int state : new int[] {-1, 4, Integer.MIN_VALUE, Integer.MAX_VALUE}) {
            due("sum: state " + state, x.sum(state), 0);
        }
    }

    private static void testsAreMadeInOrder() {
        LeasedMessages x = new LeasedMessages();
        due("tests: peek, queue before i", x.peek(3, -1), BAD_QUEUE);
        due("tests: peek, queue before i", x.peek(-1, 40), BAD_QUEUE);
        due("tests: take, queue before consumer", x.take(3, 3), BAD_QUEUE);
        due("tests: take, consumer before empty", x.take(0, 3), BAD_CONSUMER);
        due("tests: acknowledge, consumer before message", x.acknowledge(3, 0), BAD_CONSUMER);
        due("tests: refuse, consumer before message", x.refuse(3, 0), BAD_CONSUMER);
        due("tests: renew, consumer before message", x.renew(3, 0), BAD_CONSUMER);
        due("tests: tune, queue before numbers", x.tune(3, 0, 0), BAD_QUEUE);
        due("tests: publish, queue before priority", x.publish(3, 0, 4, 0), BAD_QUEUE);
        due("tests: publish, queue before life", x.publish(3, 0, 0, 51), BAD_QUEUE);
        for (int i = 0; i < 40; i++) {
            x.publish(0, 1, 0, 0);
        }
        due("tests: publish, queue before full", x.publish(3, 0, 0, 0), BAD_QUEUE);
        due("tests: publish, priority before full", x.publish(0, 0, 4, 0), BAD_NUMBER);
        due("tests: publish, life before full", x.publish(0, 0, 0, 51), BAD_NUMBER);
        x.take(0, 0);
        x.take(0, 0);
        due("tests: take, busy before empty", x.take(1, 0), BUSY);
        due("tests: take, queue before busy", x.take(3, 0), BAD_QUEUE);
    }

    private static void limitThatBecameLess() {
        LeasedMessages x = new LeasedMessages();
        x.tune(0, 5, 5);
        for (int i = 0; i < 3; i++) {
            x.publish(0, 1, 3 - i, 0);
        }
        for (int i = 0; i < 3; i++) {
            x.take(0, 0);
            x.take(0, 0);
            x.take(0, 1);
            x.lose(0);
            x.lose(1);
        }
        x.tune(0, 5, 2);
        due("limit: READY messages stay READY", x.ready(0), 3);
        due("limit: and can be taken", x.take(0, 0), 0);
        x.take(0, 1);
        x.take(0, 2);
        due("limit: refused above the limit", x.refuse(0, 0), DEAD);
        due("limit: lost above the limit", x.lose(1), 1);
        due("limit: DEAD by lose", x.state(1), DEAD);
        due("limit: late above the limit", x.pass(5), 1);
        due("limit: DEAD by pass", x.state(2), DEAD);
        x.revive(0);
        x.take(0, 0);
        x.tune(0, 5, 1);
        x.tune(0, 5, 2);
        due("limit: the limit at the coming back counts", x.refuse(0, 0), READY);
    }

    private static void readingChangesNothing() {
        LeasedMessages x = new LeasedMessages();
        x.publish(0, 1, 0, 5);
        x.publish(0, 2, 1, 0);
        x.take(0, 0);
        for (int i = 0; i < 3; i++) {
            due("reading: state", x.state(1), OUT);
            due("reading: ready", x.ready(0), 1);
            due("reading: peek", x.peek(0, 0), 0);
            due("reading: nextDeadline", x.nextDeadline(), 5);
            due("reading: sum", x.sum(READY), 1);
        }
        due("reading: take after it", x.take(0, 0), 0);
        due("reading: the time has not gone on", x.renew(0, 0), 5);
    }
}
