import java.util.List;
import java.util.function.Consumer;

/** The boundary sentences of 'What it is', of 'Terms' and of promise 1, a test for each. */
public final class NewObjectBoundariesTest {
    public static void main(String[] args) {
        Checked.sentence("What it is: used for at most 512 calls after it has been made", NewObjectBoundariesTest::theLastCall);
        Checked.sentence("What it is: 512 calls, most of them taken in", NewObjectBoundariesTest::manyCallsTakenIn);
        Checked.sentence("What it is: 512 calls, most of them not taken in", NewObjectBoundariesTest::manyCallsNotTakenIn);
        Checked.sentence("Terms: times from 0 to 40", NewObjectBoundariesTest::firstAndLastTime);
        Checked.sentence("Terms: r <= s", NewObjectBoundariesTest::notBeforeTheRelease);
        Checked.sentence("Terms: s + length <= d", NewObjectBoundariesTest::notAfterTheDeadline);
        Checked.sentence("Terms: the spans of two jobs never overlap", NewObjectBoundariesTest::jobsNeverOverlap);
        Checked.sentence("Terms: one may begin when the other ends", NewObjectBoundariesTest::jobsMayTouch);
        Checked.sentence("Terms: no span overlaps the span of a block", NewObjectBoundariesTest::noJobInABlock);
        Checked.sentence("Terms: a block covers the times from a up to b", NewObjectBoundariesTest::jobsMayTouchABlock);
        Checked.sentence("Terms: an offer that would leave no good plan is refused", NewObjectBoundariesTest::offerLeavesAPlan);
        Checked.sentence("Terms: a move that would leave no good plan is refused", NewObjectBoundariesTest::moveLeavesAPlan);
        Checked.sentence("Terms: a block that would leave no good plan is refused", NewObjectBoundariesTest::blockLeavesAPlan);
        Checked.sentence("Terms: jobs hold numbers 0 .. capacity - 1", NewObjectBoundariesTest::jobNumbers);
        Checked.sentence("Terms: blocks hold numbers 0 .. 3", NewObjectBoundariesTest::blockNumbers);
        Checked.sentence("1: no jobs", NewObjectBoundariesTest::noJobs);
        Checked.sentence("1: no blocks", NewObjectBoundariesTest::noBlocks);
        Checked.sentence("1: length clamped to 1 .. 6, too small", () -> lengths(Checked.MIN, 0));
        Checked.sentence("1: length clamped to 1 .. 6, in between", () -> lengths(1, 6));
        Checked.sentence("1: length clamped to 1 .. 6, too large", () -> lengths(7, Checked.MAX));
        Checked.sentence("1: capacity clamped to 1 .. 6, too small", () -> capacities(Checked.MIN, 0));
        Checked.sentence("1: capacity clamped to 1 .. 6, in between", () -> capacities(1, 6));
        Checked.sentence("1: capacity clamped to 1 .. 6, too large", () -> capacities(7, Checked.MAX));
        Checked.end();
    }

    private static void theLastCall() {
        List<Consumer<Checked>> lastCalls = List.of(
            p -> p.offer(0, 40).is(2), p -> p.probe(0, 40).is(2), p -> p.move(0, 5, 12).is(0), p -> p.withdraw(0).is(true),
            p -> p.block(12, 13).is(1), p -> p.unblock(0).is(true), p -> p.jobs().is(0b11), p -> p.release(1).is(1),
            p -> p.deadline(1).is(5), p -> p.earliestEnd().is(7), p -> p.latestBegin().is(2), p -> p.earliestStart(0).is(4),
            p -> p.latestStart(0).is(9), p -> p.open(37).is(true), p -> p.plannedStart(0).is(4));
        for (Consumer<Checked> lastCall : lastCalls) {
            Checked p = new Checked(3, 3);
            p.offer(0, 12).is(0);
            p.offer(1, 5).is(1);
            p.block(20, 30).is(0);
            while (p.calls() < Checked.MOST_CALLS - 1) {
                p.plannedStart(1).is(1);
                p.open(29).is(false);
                p.earliestStart(0).is(4);
                p.probe(2, 5).is(Checked.REFUSED);
            }
            lastCall.accept(p);
            endsAtTheLastCall(p);
        }
    }

    private static void manyCallsTakenIn() {
        Checked p = new Checked(3, 3);
        p.offer(0, 12).is(0);
        p.offer(1, 5).is(1);
        while (p.calls() < Checked.MOST_CALLS - 5) {
            p.withdraw(1).is(true);
            p.offer(1, 5).is(1);
            p.block(20, 30).is(0);
            p.move(0, 1, 12).is(0);
            p.unblock(0).is(true);
        }
        while (p.calls() < Checked.MOST_CALLS - 1) {
            p.move(0, 0, 12).is(0);
        }
        p.offer(0, 9).is(2);
        endsAtTheLastCall(p);
    }

    private static void manyCallsNotTakenIn() {
        Checked p = new Checked(3, 2);
        p.offer(0, 3).is(0);
        while (p.calls() < Checked.MOST_CALLS - 10) {
            p.offer(2, 5).is(Checked.REFUSED);
            p.offer(0, 2).is(Checked.BAD);
            p.move(1, 0, 40).is(Checked.FULL);
            p.move(0, 0, 2).is(Checked.BAD);
            p.block(2, 3).is(Checked.REFUSED);
            p.block(3, 3).is(Checked.BAD);
            p.withdraw(1).is(false);
            p.unblock(0).is(false);
        }
        while (p.calls() < Checked.MOST_CALLS - 2) {
            p.jobs().is(0b1);
        }
        p.block(3, 4).is(0);
        p.offer(3, 7).is(1);
        endsAtTheLastCall(p);
    }

    private static void endsAtTheLastCall(Checked p) {
        if (p.calls() != Checked.MOST_CALLS) {
            Checked.wrong("the test itself made " + p.calls() + " calls");
        }
    }

    private static void firstAndLastTime() {
        for (int length = 1; length <= 6; length++) {
            Checked p = new Checked(length, 6);
            p.offer(0, length).is(0);
            p.offer(40 - length, 40).is(1);
            p.plannedStart(0).is(0);
            p.plannedStart(1).is(40 - length);
            p.earliestEnd().is(40);
            p.latestBegin().is(0);
            p.withdraw(0).is(true);
            p.withdraw(1).is(true);
            p.block(0, 1).is(0);
            p.block(39, 40).is(1);
            p.open(0).is(false);
            p.open(1).is(true);
            p.open(39 - length).is(true);
            p.open(40 - length).is(false);
        }
    }

    private static void notBeforeTheRelease() {
        for (int length = 1; length <= 6; length++) {
            for (int r = 0; r + length <= 40; r++) {
                Checked p = new Checked(length, 1);
                p.offer(r, 40).is(0);
                p.earliestStart(0).is(r);
                p.plannedStart(0).is(r);
                p.earliestEnd().is(r + length);
                p.move(0, r, r + length).is(0);
                p.latestStart(0).is(r);
                p.latestBegin().is(r);
            }
        }
    }

    private static void notAfterTheDeadline() {
        for (int length = 1; length <= 6; length++) {
            for (int d = length; d <= 40; d++) {
                Checked p = new Checked(length, 1);
                p.offer(0, d).is(0);
                p.latestStart(0).is(d - length);
                p.latestBegin().is(d - length);
                p.block(0, d - length + 1).is(Checked.REFUSED);
                if (d > length) {
                    p.block(0, d - length).is(0);
                }
                p.plannedStart(0).is(d - length);
                p.earliestEnd().is(d);
            }
        }
    }

    private static void jobsNeverOverlap() {
        for (int length = 1; length <= 6; length++) {
            for (int apart = 1 - length; apart < length; apart++) {
                Checked p = new Checked(length, 2);
                p.offer(10, 10 + length).is(0);
                p.offer(10 + apart, 10 + apart + length).is(Checked.REFUSED);
                p.open(10 + apart).is(false);
                p.jobs().is(0b1);
            }
        }
    }

    private static void jobsMayTouch() {
        for (int length = 1; length <= 6; length++) {
            Checked behind = new Checked(length, 6);
            Checked before = new Checked(length, 6);
            Checked together = new Checked(length, 6);
            for (int id = 0; id < 6; id++) {
                int s = id * length;
                behind.offer(s, s + length).is(id);
                before.offer(40 - s - length, 40 - s).is(id);
                together.offer(0, 6 * length).is(id);
            }
            for (int id = 0; id < 6; id++) {
                behind.plannedStart(id).is(id * length);
                before.plannedStart(id).is(40 - (id + 1) * length);
                together.plannedStart(id).is(id * length);
            }
        }
    }

    private static void noJobInABlock() {
        for (int length = 1; length <= 6; length++) {
            for (int a = 10; a < 20; a++) {
                for (int b = a + 1; b <= 20; b++) {
                    overlapsOf(length, a, b);
                }
            }
        }
    }

    private static void overlapsOf(int length, int a, int b) {
        Checked p = new Checked(length, 1);
        p.block(a, b).is(0);
        for (int s = a - length + 1; s < b; s++) {
            p.probe(s, s + length).is(Checked.REFUSED);
            p.open(s).is(false);
        }
        p.offer(a - length + 1, 40).is(0);
        p.plannedStart(0).is(b);
        p.move(0, 0, b + length - 1).is(0);
        p.latestStart(0).is(a - length);
    }

    private static void jobsMayTouchABlock() {
        for (int length = 1; length <= 6; length++) {
            Checked p = new Checked(length, 2);
            p.block(10, 20).is(0);
            p.open(10 - length).is(true);
            p.open(20).is(true);
            p.offer(10 - length, 10).is(0);
            p.offer(20, 20 + length).is(1);
            p.block(20 + length, 40).is(1);
            p.block(0, 10 - length).is(2);
            p.plannedStart(0).is(10 - length);
            p.plannedStart(1).is(20);
        }
    }

    private static void offerLeavesAPlan() {
        for (int length = 1; length <= 6; length++) {
            for (int jobs = 1; jobs < 6; jobs++) {
                Checked p = filled(length, jobs);
                p.offer(0, jobs * length).is(Checked.REFUSED);
                p.offer(0, (jobs + 1) * length - 1).is(Checked.REFUSED);
                stillFilled(p, length, jobs);
                p.offer(0, (jobs + 1) * length).is(jobs);
                p.plannedStart(jobs).is(jobs * length);
            }
        }
    }

    private static void moveLeavesAPlan() {
        for (int length = 1; length <= 6; length++) {
            for (int jobs = 2; jobs <= 6; jobs++) {
                Checked p = filled(length, jobs);
                int end = jobs * length;
                for (int id = 0; id < jobs - 1; id++) {
                    p.move(id, 0, end - 1).is(id);
                }
                // Someone has to be the last: the one job that still may end then.
                p.move(jobs - 1, 0, end - 1).is(Checked.REFUSED);
                p.deadline(jobs - 1).is(end);
                stillFilled(p, length, jobs);
            }
        }
    }

    private static void blockLeavesAPlan() {
        for (int length = 1; length <= 6; length++) {
            for (int jobs = 1; jobs <= 6; jobs++) {
                Checked p = filled(length, jobs);
                for (int a = 0; a < jobs * length; a++) {
                    p.block(a, a + 1).is(Checked.REFUSED);
                    p.block(a, 40).is(Checked.REFUSED);
                }
                stillFilled(p, length, jobs);
                p.block(jobs * length, 40).is(0);
                stillFilled(p, length, jobs);
            }
        }
    }

    /** As many jobs as there is just room for from time 0 on. */
    private static Checked filled(int length, int jobs) {
        Checked p = new Checked(length, 6);
        for (int id = 0; id < jobs; id++) {
            p.offer(0, jobs * length).is(id);
        }
        return p;
    }

    private static void stillFilled(Checked p, int length, int jobs) {
        for (int id = 0; id < jobs; id++) {
            p.plannedStart(id).is(id * length);
        }
        p.jobs().is((1 << jobs) - 1);
        p.earliestEnd().is(jobs * length);
    }

    private static void jobNumbers() {
        for (int capacity = 1; capacity <= 6; capacity++) {
            Checked p = new Checked(2, capacity);
            for (int id = 0; id < capacity; id++) {
                p.offer(0, 40).is(id);
            }
            p.offer(0, 40).is(Checked.FULL);
            p.jobs().is((1 << capacity) - 1);
            for (int id = capacity; id < 8; id++) {
                p.release(id).is(Checked.NONE);
                p.withdraw(id).is(false);
            }
            for (int id = 0; id < capacity; id++) {
                p.withdraw(id).is(true);
            }
        }
    }

    private static void blockNumbers() {
        for (int capacity = 1; capacity <= 6; capacity++) {
            Checked p = new Checked(7 - capacity, capacity);
            for (int k = 0; k < 4; k++) {
                p.block(k, 40).is(k);
            }
            p.block(0, 40).is(Checked.FULL);
            p.unblock(4).is(false);
            for (int k = 0; k < 4; k++) {
                p.unblock(k).is(true);
            }
        }
    }

    private static void noJobs() {
        for (int capacity = 1; capacity <= 6; capacity++) {
            Checked p = new Checked(7 - capacity, capacity);
            p.jobs().is(0);
            for (int id = 0; id < 6; id++) {
                p.release(id).is(Checked.NONE);
                p.withdraw(id).is(false);
            }
            p.block(0, 40).is(0);
            p.unblock(0).is(true);
            p.offer(0, 40).is(0);
        }
    }

    private static void noBlocks() {
        for (int length = 1; length <= 6; length++) {
            Checked p = new Checked(length, 7 - length);
            for (int k = 0; k < 4; k++) {
                p.unblock(k).is(false);
            }
            for (int t = 0; t <= 40 - length; t++) {
                p.open(t).is(true);
            }
            p.block(0, 1).is(0);
        }
    }

    private static void lengths(int least, int most) {
        Checked.forManyInts(given -> {
            if (given >= least && given <= most) {
                lengthIs(given, Math.max(1, Math.min(6, given)));
            }
        });
    }

    private static void lengthIs(int given, int length) {
        Checked p = new Checked(given, 6);
        p.probe(0, length - 1).is(Checked.BAD);
        p.probe(41 - length, 40).is(Checked.BAD);
        p.open(41 - length).is(false);
        p.open(40 - length).is(true);
        p.offer(0, length).is(0);
        p.earliestEnd().is(length);
        p.offer(40 - length, 40).is(1);
        p.latestStart(1).is(40 - length);
    }

    private static void capacities(int least, int most) {
        Checked.forManyInts(given -> {
            if (given >= least && given <= most) {
                capacityIs(given, Math.max(1, Math.min(6, given)));
            }
        });
    }

    private static void capacityIs(int given, int capacity) {
        Checked p = new Checked(1, given);
        for (int id = 0; id < capacity; id++) {
            p.offer(0, 40).is(id);
        }
        p.offer(0, 40).is(Checked.FULL);
        p.probe(0, 40).is(Checked.FULL);
        p.jobs().is((1 << capacity) - 1);
    }
}
