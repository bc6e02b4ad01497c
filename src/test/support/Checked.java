import java.util.function.Function;
import java.util.function.IntConsumer;
import java.util.function.Supplier;

/**
 * A planner whose answers are compared with the ones that are due, sentence by sentence of the
 * document. It counts its calls, because nothing is promised after the 512th.
 */
final class Checked {
    static final int BAD = EqualJobPlanner.BAD;
    static final int FULL = EqualJobPlanner.FULL;
    static final int REFUSED = EqualJobPlanner.REFUSED;
    static final int NONE = EqualJobPlanner.NONE;
    static final int MIN = Integer.MIN_VALUE;
    static final int MAX = Integer.MAX_VALUE;
    static final int MOST_CALLS = 512;
    private static final int SHOWN = 5;

    private static int sentences = 0;
    private static int broken = 0;
    private static int wrongHere = 0;

    private final EqualJobPlanner planner;
    private final String maker;
    private int calls = 0;

    Checked(int length, int capacity) {
        planner = new EqualJobPlanner(length, capacity);
        maker = "(" + length + ", " + capacity + ")";
    }

    /** Runs the test of one sentence; the others still run when this one is broken. */
    static void sentence(String words, Runnable test) {
        sentences++;
        wrongHere = 0;
        try {
            test.run();
        } catch (RuntimeException thrown) {
            wrong("a call has thrown " + thrown);
        }
        if (wrongHere != 0) {
            broken++;
            System.out.println("BROKEN, " + wrongHere + " times: " + words);
        }
    }

    static void end() {
        System.out.println(sentences - broken + " of " + sentences + " sentences hold");
        if (broken != 0) {
            System.exit(1);
        }
    }

    static void wrong(String what) {
        wrongHere++;
        if (wrongHere <= SHOWN) {
            System.out.println(what);
        }
    }

    /** Ints about 0 and about every power of two, where a cut or wrapped number would show. */
    static void forManyInts(IntConsumer test) {
        for (int near = -50; near <= 50; near++) {
            test.accept(near);
        }
        for (int power = 7; power <= 31; power++) {
            for (int near = -50; near <= 50; near++) {
                test.accept((1 << power) + near);
                test.accept(-(1 << power) + near);
            }
        }
    }

    /** The call answers as due, and an object that had it can't be told from one that had not. */
    static void changesNothing(Supplier<Checked> setting, Function<Checked, Answer> call, int due) {
        Checked called = setting.get();
        Checked spared = setting.get();
        call.apply(called).is(due);
        called.sameAs(spared);
    }

    Answer offer(int r, int d) {
        return answer(planner.offer(r, d), "offer", r, d);
    }

    Answer probe(int r, int d) {
        return answer(planner.probe(r, d), "probe", r, d);
    }

    Answer move(int id, int r, int d) {
        return answer(planner.move(id, r, d), "move", id, r, d);
    }

    Answer withdraw(int id) {
        return answer(planner.withdraw(id) ? 1 : 0, "withdraw", id);
    }

    Answer block(int a, int b) {
        return answer(planner.block(a, b), "block", a, b);
    }

    Answer unblock(int k) {
        return answer(planner.unblock(k) ? 1 : 0, "unblock", k);
    }

    Answer jobs() {
        return answer(planner.jobs(), "jobs");
    }

    Answer release(int id) {
        return answer(planner.release(id), "release", id);
    }

    Answer deadline(int id) {
        return answer(planner.deadline(id), "deadline", id);
    }

    Answer earliestEnd() {
        return answer(planner.earliestEnd(), "earliestEnd");
    }

    Answer latestBegin() {
        return answer(planner.latestBegin(), "latestBegin");
    }

    Answer earliestStart(int id) {
        return answer(planner.earliestStart(id), "earliestStart", id);
    }

    Answer latestStart(int id) {
        return answer(planner.latestStart(id), "latestStart", id);
    }

    Answer open(int t) {
        return answer(planner.open(t) ? 1 : 0, "open", t);
    }

    Answer plannedStart(int id) {
        return answer(planner.plannedStart(id), "plannedStart", id);
    }

    int calls() {
        return calls;
    }

    /** Some 300 calls, so it is the last thing done with the two objects. */
    void sameAs(Checked other) {
        sameJobs(other);
        samePlans(other);
        sameBlocks(other);
        sameNumbers(other);
    }

    private void sameJobs(Checked other) {
        jobs().is(other.jobs());
        for (int id = 0; id < 6; id++) {
            release(id).is(other.release(id));
            deadline(id).is(other.deadline(id));
        }
    }

    private void samePlans(Checked other) {
        earliestEnd().is(other.earliestEnd());
        latestBegin().is(other.latestBegin());
        for (int id = 0; id < 6; id++) {
            earliestStart(id).is(other.earliestStart(id));
            latestStart(id).is(other.latestStart(id));
            plannedStart(id).is(other.plannedStart(id));
        }
        for (int t = 0; t <= 40; t++) {
            open(t).is(other.open(t));
        }
        for (int r = 0; r <= 32; r++) {
            probe(r, r + 8).is(other.probe(r, r + 8));
        }
    }

    private void sameBlocks(Checked other) {
        for (int k = 0; k < 4; k++) {
            unblock(k).is(other.unblock(k));
            for (int t = 0; t <= 40; t++) {
                open(t).is(other.open(t));
            }
        }
    }

    private void sameNumbers(Checked other) {
        for (int i = 0; i < 7; i++) {
            offer(0, 40).is(other.offer(0, 40));
        }
        for (int id = 0; id < 6; id++) {
            withdraw(id).is(other.withdraw(id));
        }
        for (int k = 0; k < 5; k++) {
            block(k, k + 1).is(other.block(k, k + 1));
        }
    }

    private Answer answer(int value, String name, int... arguments) {
        calls++;
        if (calls > MOST_CALLS) {
            wrong("the test itself makes more than " + MOST_CALLS + " calls");
        }
        return new Answer(this, value, name, arguments);
    }

    /** What one call answered; a boolean counts 1 or 0. */
    record Answer(Checked planner, int value, String name, int... arguments) {
        void is(int due) {
            if (value != due) {
                wrong(planner.maker + ", call " + planner.calls + ": " + words() + " answered " + value + ", due is " + due);
            }
        }

        void is(boolean due) {
            is(due ? 1 : 0);
        }

        void is(Answer due) {
            is(due.value);
        }

        private String words() {
            StringBuilder text = new StringBuilder(name).append('(');
            for (int i = 0; i < arguments.length; i++) {
                text.append(i == 0 ? "" : ", ").append(arguments[i]);
            }
            return text.append(')').toString();
        }
    }
}
