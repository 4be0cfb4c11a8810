import java.util.ArrayList;
import java.util.List;
import java.util.function.Supplier;
import java.util.function.ToIntFunction;

// Every refused call: its answer, and that nothing has changed. What an object holds can't be seen
// from one reading, so the refused object and a twin that was spared the call are put through the
// same calls, and must answer alike.
public final class RefusalTests {
    private static final int BAD_QUEUE = -1;
    private static final int BAD_CONSUMER = -2;
    private static final int BAD_NUMBER = -3;
    private static final int FULL = -4;
    private static final int EMPTY = -5;
    private static final int NOT_OUT = -6;
    private static final int BUSY = -7;
    private static final int READY = 0;
    private static final int OUT = 1;
    private static final int DONE = 2;
    private static final int DEAD = 3;

    private static final int MIN = Integer.MIN_VALUE;
    private static final int MAX = Integer.MAX_VALUE;
    private static final int[] OUTSIDE_0_TO_2 = {-1, 3, MIN, MAX};

    private static String sentence = "";
    private static int wrong = 0;

    public static void main(String[] args) {
        scenesAreAsTold();
        publishBadQueue();
        publishBadPriority();
        publishBadLife();
        publishFull();
        takeBadQueue();
        takeBadConsumer();
        takeBusy();
        takeEmpty();
        acknowledgeBadConsumer();
        acknowledgeNotOut();
        refuseBadConsumer();
        refuseNotOut();
        loseBadConsumer();
        renewBadConsumer();
        renewNotOut();
        passBadNumber();
        tuneBadQueue();
        tuneBadPatience();
        tuneBadLimit();
        reviveBadQueue();
        stateBadNumber();
        readyBadQueue();
        peekBadQueue();
        peekEmpty();
        nextDeadlineEmpty();
        sumOfAnyOtherNumber();
        publishTestsInOrder();
        takeTestsInOrder();
        consumerIsTestedBeforeMessage();
        tuneTestsInOrder();
        peekTestsQueueFirst();
        callsThatReadChangeNothing();
        if (wrong > 0) {
            System.exit(1);
        }
    }

    private static void about(String words) {
        sentence = words;
    }

    private static void due(String call, long got, long want) {
        if (got != want) {
            wrong++;
            System.out.println(sentence + " | " + call + " answered " + got + ", due is " + want);
        }
    }

    // ---- The scenes ----

    private static LeasedMessages fresh() {
        return new LeasedMessages();
    }

    // Messages in every state, queues that differ in patience and limit, and time that has gone on.
    // Consumer 0 has one message OUT (8), consumer 1 two (1 and 2), consumer 2 none; the queues have
    // 0, 3 and 4, 6 and 7, 9 READY. The bodies are powers of two, so that a sum tells its messages.
    private static LeasedMessages mixed() {
        LeasedMessages x = new LeasedMessages();
        x.tune(0, 7, 2);
        x.tune(1, 3, 1);
        x.pass(4);
        int[] queues = {0, 0, 0, 0, 1, 1, 1, 2, 2, 2, 2};
        int[] priorities = {1, 3, 3, 0, 0, 2, 2, 0, 1, 1, 3};
        int[] lives = {0, 30, 0, 12, 0, 50, 0, 0, 9, 0, 0};
        for (int message = 0; message < queues.length; message++) {
            x.publish(queues[message], 1 << message, priorities[message], lives[message]);
        }
        x.take(0, 0);
        x.refuse(0, 1);
        x.take(1, 0);
        x.refuse(0, 5);
        x.take(2, 0);
        x.acknowledge(0, 10);
        x.take(0, 1);
        x.take(0, 1);
        x.pass(1);
        x.take(2, 0);
        return x;
    }

    // As mixed, but queue 1 has no READY message; consumers 0 and 1 have two messages OUT, 2 has one.
    private static LeasedMessages drained() {
        LeasedMessages x = mixed();
        x.take(1, 2);
        x.take(1, 0);
        return x;
    }

    // As mixed, with so many messages of queue 2 behind it that 40 have been published.
    private static LeasedMessages full() {
        LeasedMessages x = mixed();
        for (int message = 11; message < 40; message++) {
            x.publish(2, 1 << (message % 32), message % 4, 0);
        }
        return x;
    }

    // Message 0 is READY with more deliveries than its queue's limit now is, message 1 is DEAD with
    // fewer: were one of them to come back once more, its state would change.
    private static LeasedMessages retuned() {
        LeasedMessages x = new LeasedMessages();
        x.tune(1, 5, 1);
        x.publish(0, 1, 0, 0);
        x.publish(1, 2, 0, 0);
        x.take(0, 0);
        x.take(1, 0);
        x.lose(0);
        x.take(0, 0);
        x.lose(0);
        x.tune(0, 5, 1);
        x.tune(1, 5, 3);
        return x;
    }

    private static LeasedMessages cleared() {
        LeasedMessages x = full();
        x.clear();
        return x;
    }

    private static void scenesAreAsTold() {
        about("the scenes");
        int[] states = {READY, OUT, OUT, READY, READY, DEAD, READY, READY, OUT, READY, DONE};
        LeasedMessages x = mixed();
        for (int message = 0; message < states.length; message++) {
            due("mixed, state of " + message, x.state(message), states[message]);
        }
        due("mixed, number of messages", x.state(states.length), BAD_NUMBER);
        due("mixed, consumer 0", x.lose(0), 1);
        due("mixed, consumer 1", x.lose(1), 2);
        due("mixed, consumer 2", x.lose(2), 0);
        x = drained();
        due("drained, queue 1", x.ready(1), 0);
        due("drained, consumer 0", x.lose(0), 2);
        due("drained, consumer 1", x.lose(1), 2);
        due("drained, consumer 2", x.lose(2), 1);
        x = retuned();
        due("retuned, state of 0", x.state(0), READY);
        due("retuned, state of 1", x.state(1), DEAD);
        x = full();
        due("full, the last message", x.state(39), READY);
        due("full, no message after it", x.state(40), BAD_NUMBER);
    }

    // ---- The twins ----

    private static void refused(int want, Supplier<LeasedMessages> scene, String name,
            ToIntFunction<LeasedMessages> call) {
        for (int probe = 0; probe < 6; probe++) {
            LeasedMessages x = scene.get();
            LeasedMessages twin = scene.get();
            due(name, call.applyAsInt(x), want);
            List<Integer> got = probe(probe, x);
            List<Integer> expected = probe(probe, twin);
            if (!got.equals(expected)) {
                wrong++;
                System.out.println(sentence + " | " + name + " has changed something: probe " + probe
                        + " answers " + got + ", without the call " + expected);
            }
        }
    }

    private static List<Integer> probe(int probe, LeasedMessages x) {
        List<Integer> answers = new ArrayList<>();
        switch (probe) {
            case 0 -> readAll(x, answers);
            case 1 -> letTimeGoOn(x, answers);
            case 2 -> acknowledgeAll(x, answers);
            case 3 -> wearOut(x, answers);
            case 4 -> askPatience(x, answers);
            default -> fillUp(x, answers);
        }
        return answers;
    }

    private static void readAll(LeasedMessages x, List<Integer> answers) {
        for (int message = 0; message <= 40; message++) {
            answers.add(x.state(message));
        }
        for (int queue = 0; queue < 3; queue++) {
            int count = x.ready(queue);
            answers.add(count);
            for (int i = 0; i <= count; i++) {
                answers.add(x.peek(queue, i));
            }
        }
        answers.add(x.nextDeadline());
        addSums(x, answers);
    }

    private static void addSums(LeasedMessages x, List<Integer> answers) {
        for (int state = 0; state < 4; state++) {
            answers.add(x.sum(state));
        }
    }

    // Shows every deadline and every life.
    private static void letTimeGoOn(LeasedMessages x, List<Integer> answers) {
        for (int step = 0; step < 60; step++) {
            answers.add(x.nextDeadline());
            answers.add(x.pass(1));
            addSums(x, answers);
        }
    }

    // Shows who has which message.
    private static void acknowledgeAll(LeasedMessages x, List<Integer> answers) {
        for (int consumer = 0; consumer < 3; consumer++) {
            for (int message = 0; message < 40; message++) {
                answers.add(x.acknowledge(consumer, message));
            }
        }
        addSums(x, answers);
    }

    // Shows the deliveries of every message, against a limit of 5 that hides none.
    private static void wearOut(LeasedMessages x, List<Integer> answers) {
        for (int queue = 0; queue < 3; queue++) {
            x.tune(queue, 5, 5);
        }
        for (int consumer = 0; consumer < 3; consumer++) {
            answers.add(x.lose(consumer));
        }
        for (int queue = 0; queue < 3; queue++) {
            for (int delivery = 0; delivery < 70; delivery++) {
                int message = x.take(queue, 0);
                answers.add(message);
                answers.add(x.refuse(0, message));
            }
        }
    }

    // Shows each queue's patience and limit, and the time.
    private static void askPatience(LeasedMessages x, List<Integer> answers) {
        x.clear();
        for (int queue = 0; queue < 3; queue++) {
            int message = x.publish(queue, 1, 0, 0);
            answers.add(message);
            for (int delivery = 0; delivery < 6; delivery++) {
                answers.add(x.take(queue, 0));
                answers.add(x.nextDeadline());
                answers.add(x.refuse(0, message));
            }
        }
    }

    // Shows the next number and how many are left, and where each new message stands.
    private static void fillUp(LeasedMessages x, List<Integer> answers) {
        for (int i = 0; i < 41; i++) {
            answers.add(x.publish(i % 3, 1, i % 4, 0));
        }
        readAll(x, answers);
    }

    // ---- Promise 2: publish ----

    private static void publishBadQueue() {
        about("publish: queue not in 0 to 2: BAD_QUEUE; nothing changes then");
        for (int queue : OUTSIDE_0_TO_2) {
            String name = "publish(" + queue + ", 9, 1, 7)";
            refused(BAD_QUEUE, RefusalTests::fresh, name, x -> x.publish(queue, 9, 1, 7));
            refused(BAD_QUEUE, RefusalTests::mixed, name, x -> x.publish(queue, 9, 1, 7));
        }
    }

    private static void publishBadPriority() {
        about("publish: priority not in 0 to 3: BAD_NUMBER; nothing changes then");
        for (int priority : new int[] {-1, 4, MIN, MAX}) {
            String name = "publish(1, 9, " + priority + ", 7)";
            refused(BAD_NUMBER, RefusalTests::fresh, name, x -> x.publish(1, 9, priority, 7));
            refused(BAD_NUMBER, RefusalTests::mixed, name, x -> x.publish(1, 9, priority, 7));
        }
    }

    private static void publishBadLife() {
        about("publish: life not in 0 to 50: BAD_NUMBER; nothing changes then");
        for (int life : new int[] {-1, 51, MIN, MAX}) {
            String name = "publish(1, 9, 2, " + life + ")";
            refused(BAD_NUMBER, RefusalTests::fresh, name, x -> x.publish(1, 9, 2, life));
            refused(BAD_NUMBER, RefusalTests::mixed, name, x -> x.publish(1, 9, 2, life));
        }
    }

    private static void publishFull() {
        about("publish: 40 messages have been published: FULL; nothing changes then");
        for (int queue = 0; queue < 3; queue++) {
            for (int priority = 0; priority <= 3; priority++) {
                int to = queue;
                int of = priority;
                refused(FULL, RefusalTests::full, "publish(" + to + ", 9, " + of + ", 1)",
                        x -> x.publish(to, 9, of, 1));
            }
        }
    }

    // ---- Promise 3: take ----

    private static void takeBadQueue() {
        about("take: BAD_QUEUE; nothing changes then");
        for (int queue : OUTSIDE_0_TO_2) {
            String name = "take(" + queue + ", 2)";
            refused(BAD_QUEUE, RefusalTests::fresh, name, x -> x.take(queue, 2));
            refused(BAD_QUEUE, RefusalTests::mixed, name, x -> x.take(queue, 2));
            refused(BAD_QUEUE, RefusalTests::full, name, x -> x.take(queue, 2));
        }
    }

    private static void takeBadConsumer() {
        about("take: consumer not in 0 to 2: BAD_CONSUMER; nothing changes then");
        for (int consumer : OUTSIDE_0_TO_2) {
            for (int queue = 0; queue < 3; queue++) {
                int from = queue;
                refused(BAD_CONSUMER, RefusalTests::mixed, "take(" + from + ", " + consumer + ")",
                        x -> x.take(from, consumer));
            }
        }
    }

    private static void takeBusy() {
        about("take: it has two messages OUT: BUSY; nothing changes then");
        for (int queue = 0; queue < 3; queue++) {
            int from = queue;
            refused(BUSY, RefusalTests::mixed, "take(" + from + ", 1)", x -> x.take(from, 1));
        }
    }

    private static void takeEmpty() {
        about("take: the queue has none: EMPTY; nothing changes then");
        refused(EMPTY, RefusalTests::drained, "take(1, 2)", x -> x.take(1, 2));
        for (int queue = 0; queue < 3; queue++) {
            int from = queue;
            String name = "take(" + from + ", 0)";
            refused(EMPTY, RefusalTests::fresh, name, x -> x.take(from, 0));
            refused(EMPTY, RefusalTests::cleared, name, x -> x.take(from, 0));
        }
    }

    // ---- Promises 4, 5, 7: acknowledge, refuse, renew ----

    // In mixed: a READY message, a DONE one, a DEAD one, one that another consumer has, and numbers
    // of no message, from the first one below and above on.
    private static final int[] NOT_OUT_WITH_0 = {0, 10, 5, 1, -1, 11, 39, 40, MIN, MAX};

    private static void acknowledgeBadConsumer() {
        about("acknowledge: BAD_CONSUMER; nothing changes then");
        for (int consumer : OUTSIDE_0_TO_2) {
            refused(BAD_CONSUMER, RefusalTests::mixed, "acknowledge(" + consumer + ", 8)",
                    x -> x.acknowledge(consumer, 8));
        }
    }

    private static void acknowledgeNotOut() {
        about("acknowledge: the message is not OUT with this consumer: NOT_OUT; nothing changes then");
        for (int message : NOT_OUT_WITH_0) {
            refused(NOT_OUT, RefusalTests::mixed, "acknowledge(0, " + message + ")",
                    x -> x.acknowledge(0, message));
        }
        refused(NOT_OUT, RefusalTests::mixed, "acknowledge(2, 8)", x -> x.acknowledge(2, 8));
        refused(NOT_OUT, RefusalTests::mixed, "acknowledge(1, 8)", x -> x.acknowledge(1, 8));
        refused(NOT_OUT, RefusalTests::retuned, "acknowledge(0, 0)", x -> x.acknowledge(0, 0));
        refused(NOT_OUT, RefusalTests::retuned, "acknowledge(0, 1)", x -> x.acknowledge(0, 1));
        refused(NOT_OUT, RefusalTests::full, "acknowledge(0, 40)", x -> x.acknowledge(0, 40));
        refused(NOT_OUT, RefusalTests::fresh, "acknowledge(0, 0)", x -> x.acknowledge(0, 0));
        refused(NOT_OUT, RefusalTests::cleared, "acknowledge(0, 8)", x -> x.acknowledge(0, 8));
    }

    private static void refuseBadConsumer() {
        about("refuse: BAD_CONSUMER; nothing changes then");
        for (int consumer : OUTSIDE_0_TO_2) {
            refused(BAD_CONSUMER, RefusalTests::mixed, "refuse(" + consumer + ", 8)",
                    x -> x.refuse(consumer, 8));
        }
    }

    private static void refuseNotOut() {
        about("refuse: NOT_OUT; nothing changes then");
        for (int message : NOT_OUT_WITH_0) {
            refused(NOT_OUT, RefusalTests::mixed, "refuse(0, " + message + ")",
                    x -> x.refuse(0, message));
        }
        refused(NOT_OUT, RefusalTests::mixed, "refuse(2, 8)", x -> x.refuse(2, 8));
        refused(NOT_OUT, RefusalTests::mixed, "refuse(1, 8)", x -> x.refuse(1, 8));
        refused(NOT_OUT, RefusalTests::retuned, "refuse(0, 0)", x -> x.refuse(0, 0));
        refused(NOT_OUT, RefusalTests::retuned, "refuse(0, 1)", x -> x.refuse(0, 1));
        refused(NOT_OUT, RefusalTests::full, "refuse(0, 40)", x -> x.refuse(0, 40));
        refused(NOT_OUT, RefusalTests::fresh, "refuse(0, 0)", x -> x.refuse(0, 0));
        refused(NOT_OUT, RefusalTests::cleared, "refuse(0, 8)", x -> x.refuse(0, 8));
    }

    private static void loseBadConsumer() {
        about("lose: BAD_CONSUMER");
        for (int consumer : OUTSIDE_0_TO_2) {
            String name = "lose(" + consumer + ")";
            refused(BAD_CONSUMER, RefusalTests::fresh, name, x -> x.lose(consumer));
            refused(BAD_CONSUMER, RefusalTests::mixed, name, x -> x.lose(consumer));
            refused(BAD_CONSUMER, RefusalTests::retuned, name, x -> x.lose(consumer));
        }
    }

    private static void renewBadConsumer() {
        about("renew: BAD_CONSUMER; nothing changes then");
        for (int consumer : OUTSIDE_0_TO_2) {
            refused(BAD_CONSUMER, RefusalTests::later, "renew(" + consumer + ", 8)",
                    x -> x.renew(consumer, 8));
        }
    }

    // A renewal right after the taking would leave the deadline as it is, and hide a change.
    private static LeasedMessages later() {
        LeasedMessages x = mixed();
        x.pass(1);
        return x;
    }

    private static void renewNotOut() {
        about("renew: NOT_OUT; nothing changes then");
        for (int message : NOT_OUT_WITH_0) {
            refused(NOT_OUT, RefusalTests::later, "renew(0, " + message + ")",
                    x -> x.renew(0, message));
        }
        refused(NOT_OUT, RefusalTests::later, "renew(2, 8)", x -> x.renew(2, 8));
        refused(NOT_OUT, RefusalTests::later, "renew(1, 8)", x -> x.renew(1, 8));
        refused(NOT_OUT, RefusalTests::full, "renew(0, 40)", x -> x.renew(0, 40));
        refused(NOT_OUT, RefusalTests::fresh, "renew(0, 0)", x -> x.renew(0, 0));
        refused(NOT_OUT, RefusalTests::cleared, "renew(0, 8)", x -> x.renew(0, 8));
    }

    // ---- Promises 8 to 10: pass, tune, revive ----

    private static void passBadNumber() {
        about("pass: n not in 0 to 100: BAD_NUMBER, nothing changes");
        for (int n : new int[] {-1, 101, MIN, MAX}) {
            String name = "pass(" + n + ")";
            refused(BAD_NUMBER, RefusalTests::fresh, name, x -> x.pass(n));
            refused(BAD_NUMBER, RefusalTests::mixed, name, x -> x.pass(n));
            refused(BAD_NUMBER, RefusalTests::overdue, name, x -> x.pass(n));
        }
    }

    // A message whose life has ended waits for the next pass; a refused one must not end it.
    private static LeasedMessages overdue() {
        LeasedMessages x = new LeasedMessages();
        x.publish(0, 1, 0, 2);
        x.publish(1, 2, 0, 0);
        x.take(0, 0);
        x.take(1, 1);
        x.pass(3);
        x.refuse(0, 0);
        return x;
    }

    private static void tuneBadQueue() {
        about("tune: BAD_QUEUE; nothing changes then");
        for (int queue : OUTSIDE_0_TO_2) {
            String name = "tune(" + queue + ", 11, 4)";
            refused(BAD_QUEUE, RefusalTests::fresh, name, x -> x.tune(queue, 11, 4));
            refused(BAD_QUEUE, RefusalTests::mixed, name, x -> x.tune(queue, 11, 4));
        }
    }

    private static void tuneBadPatience() {
        about("tune: patience not in 1 to 20: BAD_NUMBER; nothing changes then");
        for (int patience : new int[] {0, 21, -1, MIN, MAX}) {
            for (int queue = 0; queue < 3; queue++) {
                int of = queue;
                refused(BAD_NUMBER, RefusalTests::mixed, "tune(" + of + ", " + patience + ", 4)",
                        x -> x.tune(of, patience, 4));
            }
        }
    }

    private static void tuneBadLimit() {
        about("tune: limit not in 1 to 5: BAD_NUMBER; nothing changes then");
        for (int limit : new int[] {0, 6, -1, MIN, MAX}) {
            for (int queue = 0; queue < 3; queue++) {
                int of = queue;
                refused(BAD_NUMBER, RefusalTests::mixed, "tune(" + of + ", 11, " + limit + ")",
                        x -> x.tune(of, 11, limit));
            }
        }
    }

    private static void reviveBadQueue() {
        about("revive: BAD_QUEUE");
        for (int queue : OUTSIDE_0_TO_2) {
            String name = "revive(" + queue + ")";
            refused(BAD_QUEUE, RefusalTests::fresh, name, x -> x.revive(queue));
            refused(BAD_QUEUE, RefusalTests::mixed, name, x -> x.revive(queue));
        }
    }

    // ---- Promises 12 to 16: the calls that read ----

    private static void stateBadNumber() {
        about("state: BAD_NUMBER if there is none");
        for (int message : new int[] {-1, 11, 39, 40, MIN, MAX}) {
            refused(BAD_NUMBER, RefusalTests::mixed, "state(" + message + ")", x -> x.state(message));
        }
        for (int message : new int[] {-1, 40, MIN, MAX}) {
            refused(BAD_NUMBER, RefusalTests::full, "state(" + message + ")", x -> x.state(message));
        }
        for (int message : new int[] {-1, 0, 39, 40}) {
            String name = "state(" + message + ")";
            refused(BAD_NUMBER, RefusalTests::fresh, name, x -> x.state(message));
            refused(BAD_NUMBER, RefusalTests::cleared, name, x -> x.state(message));
        }
    }

    private static void readyBadQueue() {
        about("ready: BAD_QUEUE");
        for (int queue : OUTSIDE_0_TO_2) {
            String name = "ready(" + queue + ")";
            refused(BAD_QUEUE, RefusalTests::fresh, name, x -> x.ready(queue));
            refused(BAD_QUEUE, RefusalTests::mixed, name, x -> x.ready(queue));
        }
    }

    private static void peekBadQueue() {
        about("peek: BAD_QUEUE");
        for (int queue : OUTSIDE_0_TO_2) {
            String name = "peek(" + queue + ", 0)";
            refused(BAD_QUEUE, RefusalTests::fresh, name, x -> x.peek(queue, 0));
            refused(BAD_QUEUE, RefusalTests::mixed, name, x -> x.peek(queue, 0));
        }
    }

    private static void peekEmpty() {
        about("peek: EMPTY if there is none");
        for (int queue = 0; queue < 3; queue++) {
            int of = queue;
            for (int i : new int[] {-1, 2, 3, 40, MIN, MAX}) {
                refused(EMPTY, RefusalTests::mixed, "peek(" + of + ", " + i + ")", x -> x.peek(of, i));
            }
            for (int i : new int[] {-1, 0, 1}) {
                String name = "peek(" + of + ", " + i + ")";
                refused(EMPTY, RefusalTests::fresh, name, x -> x.peek(of, i));
                refused(EMPTY, RefusalTests::cleared, name, x -> x.peek(of, i));
            }
        }
        refused(EMPTY, RefusalTests::drained, "peek(1, 0)", x -> x.peek(1, 0));
    }

    private static void nextDeadlineEmpty() {
        about("nextDeadline: EMPTY if none is");
        refused(EMPTY, RefusalTests::fresh, "nextDeadline()", LeasedMessages::nextDeadline);
        refused(EMPTY, RefusalTests::cleared, "nextDeadline()", LeasedMessages::nextDeadline);
    }

    private static void sumOfAnyOtherNumber() {
        about("sum: 0 for any other number");
        for (int state : new int[] {-1, 4, MIN, MAX}) {
            refused(0, RefusalTests::mixed, "sum(" + state + ")", x -> x.sum(state));
            refused(0, RefusalTests::full, "sum(" + state + ")", x -> x.sum(state));
        }
    }

    // ---- Promise 17: the order of the tests ----

    private static void publishTestsInOrder() {
        about("publish: the tests are made in the order in which they are named");
        for (int queue : new int[] {-1, 3}) {
            for (int priority : new int[] {-1, 0, 3, 4}) {
                for (int life : new int[] {-1, 0, 50, 51}) {
                    String name = "publish(" + queue + ", 9, " + priority + ", " + life + ")";
                    refused(BAD_QUEUE, RefusalTests::mixed, name,
                            x -> x.publish(queue, 9, priority, life));
                    refused(BAD_QUEUE, RefusalTests::full, name,
                            x -> x.publish(queue, 9, priority, life));
                }
            }
        }
        int[][] badNumbers = {{-1, 0}, {4, 50}, {0, -1}, {3, 51}, {-1, -1}, {4, 51}};
        for (int[] bad : badNumbers) {
            refused(BAD_NUMBER, RefusalTests::full, "publish(0, 9, " + bad[0] + ", " + bad[1] + ")",
                    x -> x.publish(0, 9, bad[0], bad[1]));
        }
    }

    private static void takeTestsInOrder() {
        about("take: the tests are made in the order in which they are named");
        for (int queue : new int[] {-1, 3}) {
            for (int consumer : new int[] {-1, 3, 0, 1, 2}) {
                refused(BAD_QUEUE, RefusalTests::drained, "take(" + queue + ", " + consumer + ")",
                        x -> x.take(queue, consumer));
            }
        }
        for (int consumer : new int[] {-1, 3}) {
            refused(BAD_CONSUMER, RefusalTests::drained, "take(1, " + consumer + ")",
                    x -> x.take(1, consumer));
        }
        for (int consumer : new int[] {0, 1}) {
            refused(BUSY, RefusalTests::drained, "take(1, " + consumer + ")",
                    x -> x.take(1, consumer));
        }
    }

    private static void consumerIsTestedBeforeMessage() {
        about("acknowledge, refuse, renew: the consumer is tested before the message");
        for (int consumer : new int[] {-1, 3}) {
            for (int message : NOT_OUT_WITH_0) {
                String both = "(" + consumer + ", " + message + ")";
                refused(BAD_CONSUMER, RefusalTests::later, "acknowledge" + both,
                        x -> x.acknowledge(consumer, message));
                refused(BAD_CONSUMER, RefusalTests::later, "refuse" + both,
                        x -> x.refuse(consumer, message));
                refused(BAD_CONSUMER, RefusalTests::later, "renew" + both,
                        x -> x.renew(consumer, message));
            }
        }
    }

    private static void tuneTestsInOrder() {
        about("tune: the tests are made in the order in which they are named");
        for (int queue : new int[] {-1, 3}) {
            for (int patience : new int[] {0, 1, 20, 21}) {
                for (int limit : new int[] {0, 1, 5, 6}) {
                    refused(BAD_QUEUE, RefusalTests::mixed,
                            "tune(" + queue + ", " + patience + ", " + limit + ")",
                            x -> x.tune(queue, patience, limit));
                }
            }
        }
        for (int patience : new int[] {0, 21}) {
            for (int limit : new int[] {0, 6}) {
                refused(BAD_NUMBER, RefusalTests::mixed, "tune(2, " + patience + ", " + limit + ")",
                        x -> x.tune(2, patience, limit));
            }
        }
    }

    private static void peekTestsQueueFirst() {
        about("peek tests queue first: BAD_QUEUE if it is not 0 to 2, whatever i is");
        for (int queue : OUTSIDE_0_TO_2) {
            for (int i : new int[] {-1, 0, 1, 2, 39, 40, MIN, MAX}) {
                String name = "peek(" + queue + ", " + i + ")";
                refused(BAD_QUEUE, RefusalTests::fresh, name, x -> x.peek(queue, i));
                refused(BAD_QUEUE, RefusalTests::drained, name, x -> x.peek(queue, i));
            }
        }
    }

    private static void callsThatReadChangeNothing() {
        about("state, ready, peek, nextDeadline, sum change nothing");
        for (int message = 0; message < 11; message++) {
            int of = message;
            int want = mixed().state(of);
            refused(want, RefusalTests::mixed, "state(" + of + ")", x -> x.state(of));
        }
        int[] firsts = {0, 6, 9};
        int[] seconds = {3, 4, 7};
        for (int queue = 0; queue < 3; queue++) {
            int of = queue;
            refused(2, RefusalTests::mixed, "ready(" + of + ")", x -> x.ready(of));
            refused(firsts[of], RefusalTests::mixed, "peek(" + of + ", 0)", x -> x.peek(of, 0));
            refused(seconds[of], RefusalTests::mixed, "peek(" + of + ", 1)", x -> x.peek(of, 1));
        }
        refused(10, RefusalTests::mixed, "nextDeadline()", LeasedMessages::nextDeadline);
        int[] sums = {1 + 8 + 16 + 64 + 128 + 512, 2 + 4 + 256, 1024, 32};
        for (int state = 0; state < 4; state++) {
            int of = state;
            refused(sums[of], RefusalTests::mixed, "sum(" + of + ")", x -> x.sum(of));
        }
        refused(0, RefusalTests::overdue, "state(0)", x -> x.state(0));
        refused(1, RefusalTests::overdue, "ready(0)", x -> x.ready(0));
        refused(0, RefusalTests::overdue, "peek(0, 0)", x -> x.peek(0, 0));
        refused(1, RefusalTests::overdue, "sum(0)", x -> x.sum(READY));
    }
}
