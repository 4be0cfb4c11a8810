import java.util.ArrayList;
import java.util.Arrays;
import java.util.Comparator;
import java.util.List;
import java.util.function.Predicate;

// Long runs of calls, the same on every machine, held against a model that is written with lists of
// objects, so that it shares none of the class's bookkeeping.
public final class ModelTests {
    private static final int RUNS = 3000;
    private static final int CALLS = 512;
    private static final int MOST_REPORTS = 20;

    private static int wrong = 0;
    private static long seed = 1;

    public static void main(String[] args) {
        for (int run = 0; run < RUNS && wrong < MOST_REPORTS; run++) {
            seed = 1000003L * run + 7;
            compareRun(run);
        }
        if (wrong > 0) {
            System.exit(1);
        }
    }

    private static void compareRun(int run) {
        LeasedMessages real = new LeasedMessages();
        Model model = new Model();
        // Without clears the 40 messages are soon used up; with many of them nothing grows old.
        int clearEvery = run % 3 == 0 ? 1000000 : 40 + 40 * (run % 5);
        int call = 0;
        while (call < CALLS && wrong < MOST_REPORTS) {
            int[] args = {draw(0, 2), draw(0, 2), draw(0, 3), 0};
            int kind = draw(0, 15);
            if (draw(1, clearEvery) == 1) {
                kind = 16;
            }
            fillArguments(kind, args, model);
            if (draw(0, 24) == 0) {
                args[draw(0, 3)] = strange();
            }
            long got = callReal(real, kind, args);
            long want = callModel(model, kind, args);
            if (got != want) {
                wrong++;
                System.out.println("run " + run + ", call " + call + ": kind " + kind + " with "
                        + Arrays.toString(args) + " answered " + got + ", due is " + want);
                return;
            }
            call++;
        }
    }

    private static int draw(int least, int greatest) {
        seed = seed * 6364136223846793005L + 1442695040888963407L;
        return least + (int) Long.remainderUnsigned(seed >>> 33, greatest - least + 1L);
    }

    private static int strange() {
        int[] values = {-1, 3, 4, 0, 5, 6, 20, 21, 39, 40, 41, 50, 51, 100, 101,
            Integer.MIN_VALUE, Integer.MAX_VALUE};
        return values[draw(0, values.length - 1)];
    }

    private static void fillArguments(int kind, int[] args, Model model) {
        if (kind == 0 || kind == 15) {
            args[1] = draw(0, 9) == 0 ? Integer.MAX_VALUE - draw(0, 9) : draw(-50, 50);
            args[3] = draw(0, 2) == 0 ? draw(1, 50) : 0;
        } else if (kind == 2 || kind == 3 || kind == 5) {
            args[1] = likelyMessage(args[0], model);
        } else if (kind == 6) {
            args[0] = draw(0, 19) == 0 ? draw(0, 100) : draw(0, 4);
        } else if (kind == 7) {
            args[1] = draw(1, 20);
            args[2] = draw(1, 5);
        } else if (kind == 9) {
            args[0] = draw(0, model.all.size());
        } else if (kind == 11) {
            args[1] = draw(-1, 6);
        } else if (kind == 13) {
            args[0] = draw(-1, 4);
        }
    }

    // A message drawn at random is seldom OUT with the consumer, so that one that is gets a good chance.
    private static int likelyMessage(int consumer, Model model) {
        List<Message> out = model.those(m -> m.state == Model.OUT && m.holder == consumer);
        if (!out.isEmpty() && draw(0, 3) > 0) {
            return out.get(draw(0, out.size() - 1)).number;
        }
        return draw(0, model.all.size());
    }

    private static long callReal(LeasedMessages x, int kind, int[] a) {
        switch (kind) {
            case 1: case 14: return x.take(a[0], a[1]);
            case 2: return x.acknowledge(a[0], a[1]);
            case 3: return x.refuse(a[0], a[1]);
            case 4: return x.lose(a[0]);
            case 5: return x.renew(a[0], a[1]);
            case 6: return x.pass(a[0]);
            case 7: return x.tune(a[0], a[1], a[2]);
            case 8: return x.revive(a[0]);
            case 9: return x.state(a[0]);
            case 10: return x.ready(a[0]);
            case 11: return x.peek(a[0], a[1]);
            case 12: return x.nextDeadline();
            case 13: return x.sum(a[0]);
            case 16: x.clear(); return 0;
            default: return x.publish(a[0], a[1], a[2], a[3]);
        }
    }

    private static long callModel(Model x, int kind, int[] a) {
        switch (kind) {
            case 1: case 14: return x.take(a[0], a[1]);
            case 2: return x.acknowledge(a[0], a[1]);
            case 3: return x.refuse(a[0], a[1]);
            case 4: return x.lose(a[0]);
            case 5: return x.renew(a[0], a[1]);
            case 6: return x.pass(a[0]);
            case 7: return x.tune(a[0], a[1], a[2]);
            case 8: return x.revive(a[0]);
            case 9: return x.state(a[0]);
            case 10: return x.ready(a[0]);
            case 11: return x.peek(a[0], a[1]);
            case 12: return x.nextDeadline();
            case 13: return x.sum(a[0]);
            case 16: x.clear(); return 0;
            default: return x.publish(a[0], a[1], a[2], a[3]);
        }
    }

    private static final class Message {
        int number;
        int queue;
        int body;
        int priority;
        int deliveries;
        int state;
        int holder;
        int deadline;
        int end;
    }

    private static final class Model {
        static final int READY = 0;
        static final int OUT = 1;
        static final int DONE = 2;
        static final int DEAD = 3;

        final List<Message> all = new ArrayList<>();
        final int[] patience = {5, 5, 5};
        final int[] limit = {3, 3, 3};
        int time = 0;

        static boolean within(int number, int least, int greatest) {
            return least <= number && number <= greatest;
        }

        List<Message> those(Predicate<Message> test) {
            List<Message> found = new ArrayList<>(all);
            found.removeIf(test.negate());
            return found;
        }

        List<Message> inOrder(int queue) {
            List<Message> line = those(m -> m.queue == queue && m.state == READY);
            line.sort(Comparator.<Message>comparingInt(m -> -m.priority).thenComparingInt(m -> m.number));
            return line;
        }

        List<Message> outWith(int consumer) {
            return those(m -> m.state == OUT && m.holder == consumer);
        }

        List<Message> outWith(int consumer, int message) {
            return those(m -> m.state == OUT && m.holder == consumer && m.number == message);
        }

        int comeBack(List<Message> messages) {
            for (Message m : messages) {
                m.state = m.deliveries < limit[m.queue] ? READY : DEAD;
            }
            return messages.size();
        }

        int publish(int queue, int body, int priority, int life) {
            if (!within(queue, 0, 2)) return -1;
            if (!within(priority, 0, 3)) return -3;
            if (!within(life, 0, 50)) return -3;
            if (all.size() == 40) return -4;
            Message m = new Message();
            m.number = all.size();
            m.queue = queue;
            m.body = body;
            m.priority = priority;
            m.end = life == 0 ? Integer.MAX_VALUE : time + life;
            all.add(m);
            return m.number;
        }

        int take(int queue, int consumer) {
            if (!within(queue, 0, 2)) return -1;
            if (!within(consumer, 0, 2)) return -2;
            if (outWith(consumer).size() == 2) return -7;
            if (inOrder(queue).isEmpty()) return -5;
            Message m = inOrder(queue).get(0);
            m.state = OUT;
            m.holder = consumer;
            m.deliveries++;
            m.deadline = time + patience[queue];
            return m.number;
        }

        int acknowledge(int consumer, int message) {
            if (!within(consumer, 0, 2)) return -2;
            if (outWith(consumer, message).isEmpty()) return -6;
            all.get(message).state = DONE;
            return outWith(consumer).size();
        }

        int refuse(int consumer, int message) {
            if (!within(consumer, 0, 2)) return -2;
            if (comeBack(outWith(consumer, message)) == 0) return -6;
            return all.get(message).state;
        }

        int lose(int consumer) {
            if (!within(consumer, 0, 2)) return -2;
            return comeBack(outWith(consumer));
        }

        int renew(int consumer, int message) {
            if (!within(consumer, 0, 2)) return -2;
            if (outWith(consumer, message).isEmpty()) return -6;
            Message m = all.get(message);
            m.deadline = time + patience[m.queue];
            return m.deadline;
        }

        int pass(int n) {
            if (!within(n, 0, 100)) return -3;
            time += n;
            int back = comeBack(those(m -> m.state == OUT && m.deadline <= time));
            for (Message m : those(m -> m.state == READY && m.end <= time)) {
                m.state = DONE;
            }
            return back;
        }

        int tune(int queue, int newPatience, int newLimit) {
            if (!within(queue, 0, 2)) return -1;
            if (!within(newPatience, 1, 20)) return -3;
            if (!within(newLimit, 1, 5)) return -3;
            patience[queue] = newPatience;
            limit[queue] = newLimit;
            return 0;
        }

        int revive(int queue) {
            if (!within(queue, 0, 2)) return -1;
            List<Message> dead = those(m -> m.state == DEAD && m.queue == queue);
            for (Message m : dead) {
                m.state = READY;
                m.deliveries = 0;
            }
            return dead.size();
        }

        void clear() {
            all.clear();
        }

        int state(int message) {
            return within(message, 0, all.size() - 1) ? all.get(message).state : -3;
        }

        int ready(int queue) {
            return within(queue, 0, 2) ? inOrder(queue).size() : -1;
        }

        int peek(int queue, int i) {
            if (!within(queue, 0, 2)) return -1;
            List<Message> line = inOrder(queue);
            return within(i, 0, line.size() - 1) ? line.get(i).number : -5;
        }

        int nextDeadline() {
            return those(m -> m.state == OUT).stream().mapToInt(m -> m.deadline).min().orElse(-5);
        }

        int sum(int state) {
            return those(m -> m.state == state).stream().mapToInt(m -> m.body).sum();
        }
    }
}
