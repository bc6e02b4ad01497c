/**
 * Long runs of mixed calls, each answer compared with a model that tries every start of every job
 * one by one. The runs are the same each time: their numbers come from a fixed sequence.
 */
public final class EveryPlanTest {
    private static final int CALLS = 512;
    private static final int SHOWN = 20;

    private static long sequence = 20261115L;
    private static int wrong = 0;
    private static int compared = 0;

    public static void main(String[] args) {
        for (int run = 0; run < 150; run++) {
            int length = between(1, 6);
            play("narrow " + run, length, between(1, 6), 4, between(8, 40));
            play("middle " + run, length, between(1, 4), 9, between(15, 40));
            play("wide " + run, length, between(1, 3), 40, 40);
        }
        for (int run = 0; run < 6; run++) {
            play("tight " + run, 6, 6, 40, 40);
        }
        System.out.println(compared + " answers compared, " + wrong + " not as due");
        if (wrong != 0) {
            System.exit(1);
        }
    }

    private static int between(int least, int most) {
        sequence = sequence * 6364136223846793005L + 1442695040888963407L;
        return least + (int) ((sequence >>> 33) % (most - least + 1));
    }

    private static void play(String run, int length, int capacity, int slack, int last) {
        EqualJobPlanner planner = new EqualJobPlanner(length, capacity);
        Model model = new Model(length, capacity);
        for (int call = 0; call < CALLS; call++) {
            step(run + " (" + length + ", " + capacity + ") call " + call, planner, model, slack, last);
        }
    }

    private static void step(String where, EqualJobPlanner p, Model m, int slack, int last) {
        int id = between(0, 20) == 0 ? between(-2, 8) : between(0, m.capacity - 1);
        int r = between(0, 30) == 0 ? between(-2, 42) : between(0, last - m.length);
        int d = between(0, 30) == 0 ? between(-2, 42) : Math.min(last, r + m.length + between(0, slack));
        int a = between(0, 30) == 0 ? between(-2, 42) : between(0, 39);
        int b = between(0, 30) == 0 ? between(-2, 42) : Math.min(40, a + between(1, 6));
        int t = between(-1, 41);
        String window = "(" + r + ", " + d + ")";
        switch (between(0, 23)) {
            case 0, 1, 2, 3, 4 -> due(where, "offer" + window, p.offer(r, d), m.offer(r, d));
            case 5 -> due(where, "probe" + window, p.probe(r, d), m.probe(r, d));
            case 6, 7 -> due(where, "move " + id + window, p.move(id, r, d), m.move(id, r, d));
            case 8 -> due(where, "withdraw " + id, bit(p.withdraw(id)), bit(m.withdraw(id)));
            case 9, 10 -> due(where, "block(" + a + ", " + b + ")", p.block(a, b), m.block(a, b));
            case 11 -> due(where, "unblock " + id, bit(p.unblock(id)), bit(m.unblock(id)));
            case 12 -> due(where, "jobs", p.jobs(), m.jobs());
            case 13 -> due(where, "release " + id, p.release(id), m.holds(id) ? m.windows[id][0] : -1);
            case 14 -> due(where, "deadline " + id, p.deadline(id), m.holds(id) ? m.windows[id][1] : -1);
            case 15 -> due(where, "earliestEnd", p.earliestEnd(), m.plans().earliestEnd);
            case 16 -> due(where, "latestBegin", p.latestBegin(), m.plans().latestBegin);
            case 17 -> due(where, "earliestStart " + id, p.earliestStart(id), m.holds(id) ? m.plans().earliest[id] : -1);
            case 18 -> due(where, "latestStart " + id, p.latestStart(id), m.holds(id) ? m.plans().latest[id] : -1);
            case 19, 20 -> due(where, "plannedStart " + id, p.plannedStart(id), m.holds(id) ? m.plans().first[id] : -1);
            default -> due(where, "open " + t, bit(p.open(t)), bit(t >= 0 && t <= 40 && m.plans().open[t]));
        }
    }

    private static int bit(boolean answer) {
        return answer ? 1 : 0;
    }

    private static void due(String where, String call, int got, int want) {
        compared++;
        if (got != want) {
            wrong++;
            if (wrong <= SHOWN) {
                System.out.println(where + ": " + call + " answered " + got + ", due is " + want);
            }
        }
    }

    /** The jobs and blocks as the document tells them; a place that holds nothing is null. */
    private static final class Model {
        final int length;
        final int capacity;
        final int[][] windows = new int[6][];
        final int[][] blocks = new int[4][];
        private Plans plans;

        Model(int length, int capacity) {
            this.length = length;
            this.capacity = capacity;
        }

        int offer(int r, int d) {
            int number = probe(r, d);
            if (number >= 0) {
                windows[number] = new int[] {r, d};
                plans = null;
            }
            return number;
        }

        int probe(int r, int d) {
            if (isBad(r, d)) {
                return -1;
            }
            for (int id = 0; id < capacity; id++) {
                if (windows[id] == null) {
                    windows[id] = new int[] {r, d};
                    boolean good = new Plans(this, true).found;
                    windows[id] = null;
                    return good ? id : -3;
                }
            }
            return -2;
        }

        int move(int id, int r, int d) {
            if (!holds(id)) {
                return -2;
            }
            if (isBad(r, d)) {
                return -1;
            }
            int[] old = windows[id];
            windows[id] = new int[] {r, d};
            if (!new Plans(this, true).found) {
                windows[id] = old;
                return -3;
            }
            plans = null;
            return id;
        }

        boolean withdraw(int id) {
            boolean held = holds(id);
            if (held) {
                windows[id] = null;
                plans = null;
            }
            return held;
        }

        int block(int a, int b) {
            if (a < 0 || a >= b || b > 40) {
                return -1;
            }
            for (int k = 0; k < 4; k++) {
                if (blocks[k] == null) {
                    blocks[k] = new int[] {a, b};
                    if (!new Plans(this, true).found) {
                        blocks[k] = null;
                        return -3;
                    }
                    plans = null;
                    return k;
                }
            }
            return -2;
        }

        boolean unblock(int k) {
            boolean held = k >= 0 && k < 4 && blocks[k] != null;
            if (held) {
                blocks[k] = null;
                plans = null;
            }
            return held;
        }

        int jobs() {
            int held = 0;
            for (int id = 0; id < 6; id++) {
                held += holds(id) ? 1 << id : 0;
            }
            return held;
        }

        boolean holds(int id) {
            return id >= 0 && id < 6 && windows[id] != null;
        }

        boolean isBad(int r, int d) {
            return r < 0 || d > 40 || r > 40 || d < 0 || d - r < length;
        }

        Plans plans() {
            if (plans == null) {
                plans = new Plans(this, false);
            }
            return plans;
        }
    }

    /** What all good plans together answer, found by going through every one of them. */
    private static final class Plans {
        boolean found = false;
        int earliestEnd = Integer.MAX_VALUE;
        int latestBegin = Integer.MIN_VALUE;
        final int[] earliest = {99, 99, 99, 99, 99, 99};
        final int[] latest = {-9, -9, -9, -9, -9, -9};
        final int[] first = new int[6];
        final boolean[] open = new boolean[41];

        private final Model model;
        private final boolean oneIsEnough;
        private final int[] starts = new int[6];

        Plans(Model model, boolean oneIsEnough) {
            this.model = model;
            this.oneIsEnough = oneIsEnough;
            long taken = 0;
            for (int[] block : model.blocks) {
                if (block != null) {
                    taken |= span(block[0], block[1]);
                }
            }
            place(0, taken);
        }

        private static long span(int begin, int end) {
            return (1L << end) - (1L << begin);
        }

        private void place(int id, long taken) {
            if (oneIsEnough && found) {
                return;
            }
            if (id == 6) {
                note(taken);
            } else if (!model.holds(id)) {
                place(id + 1, taken);
            } else {
                for (int s = model.windows[id][0]; s + model.length <= model.windows[id][1]; s++) {
                    long job = span(s, s + model.length);
                    if ((taken & job) == 0) {
                        starts[id] = s;
                        place(id + 1, taken | job);
                    }
                }
            }
        }

        private void note(long taken) {
            int begin = 40;
            int end = 0;
            for (int id = 0; id < 6; id++) {
                if (model.holds(id)) {
                    begin = Math.min(begin, starts[id]);
                    end = Math.max(end, starts[id] + model.length);
                    earliest[id] = Math.min(earliest[id], starts[id]);
                    latest[id] = Math.max(latest[id], starts[id]);
                }
            }
            if (!found) {
                // Starts are tried from the least on, in the order of the numbers.
                System.arraycopy(starts, 0, first, 0, 6);
            }
            found = true;
            earliestEnd = Math.min(earliestEnd, end);
            latestBegin = Math.max(latestBegin, begin);
            for (int t = 0; t + model.length <= 40; t++) {
                open[t] |= (taken & span(t, t + model.length)) == 0;
            }
        }
    }
}
