public final class LeasedMessages {
    public static final int BAD_QUEUE = -1;
    public static final int BAD_CONSUMER = -2;
    public static final int BAD_NUMBER = -3;
    public static final int FULL = -4;
    public static final int EMPTY = -5;
    public static final int NOT_OUT = -6;
    public static final int BUSY = -7;
    public static final int READY = 0;
    public static final int OUT = 1;
    public static final int DONE = 2;
    public static final int DEAD = 3;

    private static final int QUEUES = 3;
    private static final int CONSUMERS = 3;
    private static final int MESSAGES = 40;
    private static final int MOST_OUT = 2;
    private static final int GREATEST_PRIORITY = 3;
    private static final int LONGEST_LIFE = 50;
    private static final int LONGEST_PASS = 100;
    private static final int FIRST_PATIENCE = 5;
    private static final int GREATEST_PATIENCE = 20;
    private static final int FIRST_LIMIT = 3;
    private static final int GREATEST_LIMIT = 5;

    private final int[] patiences = new int[QUEUES];
    private final int[] limits = new int[QUEUES];

    // One entry for each message, at its number; entries from published on mean nothing.
    private final int[] queues = new int[MESSAGES];
    private final int[] bodies = new int[MESSAGES];
    private final int[] priorities = new int[MESSAGES];
    private final int[] lives = new int[MESSAGES];
    private final int[] births = new int[MESSAGES];
    private final int[] deliveries = new int[MESSAGES];
    private final int[] states = new int[MESSAGES];

    // These two mean something only while the message is OUT.
    private final int[] holders = new int[MESSAGES];
    private final int[] deadlines = new int[MESSAGES];

    private int published;
    private int time;

    public LeasedMessages() {
        for (int queue = 0; queue < QUEUES; queue++) {
            patiences[queue] = FIRST_PATIENCE;
            limits[queue] = FIRST_LIMIT;
        }
        published = 0;
        time = 0;
    }

    public int publish(int queue, int body, int priority, int life) {
        if (!isQueue(queue)) {
            return BAD_QUEUE;
        }
        if (priority < 0 || priority > GREATEST_PRIORITY || life < 0 || life > LONGEST_LIFE) {
            return BAD_NUMBER;
        }
        if (published >= MESSAGES) {
            return FULL;
        }
        int message = published;
        queues[message] = queue;
        bodies[message] = body;
        priorities[message] = priority;
        lives[message] = life;
        births[message] = time;
        deliveries[message] = 0;
        states[message] = READY;
        published++;
        return message;
    }

    public int take(int queue, int consumer) {
        if (!isQueue(queue)) {
            return BAD_QUEUE;
        }
        if (!isConsumer(consumer)) {
            return BAD_CONSUMER;
        }
        if (countOut(consumer) >= MOST_OUT) {
            return BUSY;
        }
        int message = findReady(queue, 0);
        if (message == EMPTY) {
            return EMPTY;
        }
        states[message] = OUT;
        holders[message] = consumer;
        deliveries[message]++;
        deadlines[message] = time + patiences[queue];
        return message;
    }

    public int acknowledge(int consumer, int message) {
        if (!isConsumer(consumer)) {
            return BAD_CONSUMER;
        }
        if (!isOutWith(consumer, message)) {
            return NOT_OUT;
        }
        states[message] = DONE;
        return countOut(consumer);
    }

    public int refuse(int consumer, int message) {
        if (!isConsumer(consumer)) {
            return BAD_CONSUMER;
        }
        if (!isOutWith(consumer, message)) {
            return NOT_OUT;
        }
        comeBack(message);
        return states[message];
    }

    public int lose(int consumer) {
        if (!isConsumer(consumer)) {
            return BAD_CONSUMER;
        }
        int back = 0;
        for (int message = 0; message < published; message++) {
            if (isOutWith(consumer, message)) {
                comeBack(message);
                back++;
            }
        }
        return back;
    }

    public int renew(int consumer, int message) {
        if (!isConsumer(consumer)) {
            return BAD_CONSUMER;
        }
        if (!isOutWith(consumer, message)) {
            return NOT_OUT;
        }
        deadlines[message] = time + patiences[queues[message]];
        return deadlines[message];
    }

    public int pass(int n) {
        if (n < 0 || n > LONGEST_PASS) {
            return BAD_NUMBER;
        }
        time += n;
        // In this order, so that a message that comes back too late for its life expires at once.
        int back = returnOverdue();
        expireReady();
        return back;
    }

    public int tune(int queue, int patience, int limit) {
        if (!isQueue(queue)) {
            return BAD_QUEUE;
        }
        if (patience < 1 || patience > GREATEST_PATIENCE || limit < 1 || limit > GREATEST_LIMIT) {
            return BAD_NUMBER;
        }
        patiences[queue] = patience;
        limits[queue] = limit;
        return 0;
    }

    public int revive(int queue) {
        if (!isQueue(queue)) {
            return BAD_QUEUE;
        }
        int revived = 0;
        for (int message = 0; message < published; message++) {
            if (queues[message] == queue && states[message] == DEAD) {
                states[message] = READY;
                deliveries[message] = 0;
                revived++;
            }
        }
        return revived;
    }

    public void clear() {
        published = 0;
    }

    public int state(int message) {
        if (!isMessage(message)) {
            return BAD_NUMBER;
        }
        return states[message];
    }

    public int ready(int queue) {
        if (!isQueue(queue)) {
            return BAD_QUEUE;
        }
        int count = 0;
        for (int message = 0; message < published; message++) {
            if (isReadyIn(queue, message)) {
                count++;
            }
        }
        return count;
    }

    public int peek(int queue, int i) {
        if (!isQueue(queue)) {
            return BAD_QUEUE;
        }
        return findReady(queue, i);
    }

    public int nextDeadline() {
        int earliest = EMPTY;
        for (int message = 0; message < published; message++) {
            if (states[message] == OUT && (earliest == EMPTY || deadlines[message] < earliest)) {
                earliest = deadlines[message];
            }
        }
        return earliest;
    }

    public int sum(int state) {
        int total = 0;
        for (int message = 0; message < published; message++) {
            if (states[message] == state) {
                total += bodies[message];
            }
        }
        return total;
    }

    private boolean isQueue(int queue) {
        return queue >= 0 && queue < QUEUES;
    }

    private boolean isConsumer(int consumer) {
        return consumer >= 0 && consumer < CONSUMERS;
    }

    private boolean isMessage(int message) {
        return message >= 0 && message < published;
    }

    private boolean isReadyIn(int queue, int message) {
        return isMessage(message) && states[message] == READY && queues[message] == queue;
    }

    private boolean isOutWith(int consumer, int message) {
        return isMessage(message) && states[message] == OUT && holders[message] == consumer;
    }

    private int countOut(int consumer) {
        int count = 0;
        for (int message = 0; message < published; message++) {
            if (isOutWith(consumer, message)) {
                count++;
            }
        }
        return count;
    }

    // The order never depends on a message's past, so it is read off the numbers and not kept.
    private int findReady(int queue, int place) {
        int before = 0;
        for (int priority = GREATEST_PRIORITY; priority >= 0; priority--) {
            for (int message = 0; message < published; message++) {
                if (priorities[message] == priority && isReadyIn(queue, message)) {
                    if (before == place) {
                        return message;
                    }
                    before++;
                }
            }
        }
        return EMPTY;
    }

    private void comeBack(int message) {
        // A limit that has become less can lie below the deliveries, so equality would not do.
        boolean spent = deliveries[message] >= limits[queues[message]];
        states[message] = spent ? DEAD : READY;
    }

    private int returnOverdue() {
        int back = 0;
        for (int message = 0; message < published; message++) {
            if (states[message] == OUT && deadlines[message] <= time) {
                comeBack(message);
                back++;
            }
        }
        return back;
    }

    private void expireReady() {
        for (int message = 0; message < published; message++) {
            boolean mortal = lives[message] > 0;
            if (mortal && states[message] == READY && births[message] + lives[message] <= time) {
                states[message] = DONE;
            }
        }
    }
}
