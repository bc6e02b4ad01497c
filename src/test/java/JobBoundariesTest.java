import java.util.List;
import java.util.function.Supplier;

/** The boundary sentences of promises 2 to 5 and 8 to 10, a test for each. */
public final class JobBoundariesTest {
    private static final int BAD = Checked.BAD;
    private static final int FULL = Checked.FULL;
    private static final int REFUSED = Checked.REFUSED;
    private static final int NONE = Checked.NONE;
    private static final int MIN = Checked.MIN;
    private static final int MAX = Checked.MAX;

    private static final int[][] RELEASE_TOO_SMALL = {{-1, 40}, {-1, 10}, {-1, 3}, {-40, 0}, {-40, 40}, {MIN + 41, 40}, {MIN, 0}, {MIN, 40}};
    private static final int[][] DEADLINE_TOO_LARGE = {{0, 41}, {36, 41}, {37, 41}, {40, 44}, {40, 80}, {0, 1000}, {0, MAX}, {40, MAX}};
    private static final int[][] RELEASE_TOO_LARGE = {{41, 40}, {41, 44}, {41, 45}, {41, 0}, {41, MAX}, {1000, 40}, {MAX, 40}, {MAX, 0}, {MAX, MAX}};
    private static final int[][] DEADLINE_TOO_SMALL = {{0, -1}, {40, -1}, {0, MIN}, {1, MIN}, {5, MIN}, {40, MIN}, {40, MIN + 39}, {-10, -1}, {MIN, -1}};
    private static final int[][] WINDOW_TOO_SHORT = {{0, 3}, {0, 0}, {10, 13}, {10, 10}, {10, 9}, {37, 40}, {40, 40}, {40, 0}, {20, 16}};

    public static void main(String[] args) {
        offerSentences();
        probeSentences();
        moveSentences();
        withdrawSentences();
        Checked.sentence("8: no bit is set when there is no job", JobBoundariesTest::noJobNoBit);
        Checked.sentence("8: bit i is set when a job holds i, for every set of numbers", JobBoundariesTest::aBitForEachJob);
        Checked.sentence("8: all bits are set when every number is held", JobBoundariesTest::allBits);
        Checked.sentence("9: the release of job id, from 0 on", JobBoundariesTest::releases);
        Checked.sentence("9: NONE when no job holds the number", JobBoundariesTest::noRelease);
        Checked.sentence("10: the deadline of job id, up to 40", JobBoundariesTest::deadlines);
        Checked.sentence("10: NONE when no job holds the number", JobBoundariesTest::noDeadline);
        Checked.end();
    }

    private static void offerSentences() {
        Checked.sentence("2: BAD when r < 0", () -> badOffers(RELEASE_TOO_SMALL));
        Checked.sentence("2: BAD when d > 40", () -> badOffers(DEADLINE_TOO_LARGE));
        Checked.sentence("2: BAD when r > 40", () -> badOffers(RELEASE_TOO_LARGE));
        Checked.sentence("2: BAD when d < 0", () -> badOffers(DEADLINE_TOO_SMALL));
        Checked.sentence("2: BAD when d - r < length", () -> badOffers(WINDOW_TOO_SHORT));
        Checked.sentence("2: not BAD when d - r is just length", JobBoundariesTest::shortestOffers);
        Checked.sentence("2: BAD, for every int", JobBoundariesTest::offersOfManyInts);
        Checked.sentence("2: FULL when capacity jobs are there", JobBoundariesTest::fullAtCapacity);
        Checked.sentence("2: not FULL when one job less is there", JobBoundariesTest::notFullBelowCapacity);
        Checked.sentence("2: REFUSED when there would be no good plan", JobBoundariesTest::refusedOffers);
        Checked.sentence("2: by the first that applies, BAD before FULL", JobBoundariesTest::badOfferBeforeFull);
        Checked.sentence("2: by the first that applies, BAD before REFUSED", JobBoundariesTest::badOfferBeforeRefused);
        Checked.sentence("2: by the first that applies, FULL before REFUSED", JobBoundariesTest::fullOfferBeforeRefused);
        Checked.sentence("2: taken in under the least number no job holds", JobBoundariesTest::leastJobNumber);
        Checked.sentence("2: the job that is taken in has the window", JobBoundariesTest::offeredWindow);
        Checked.sentence("2: an offer that is BAD changes nothing", JobBoundariesTest::badOfferChangesNothing);
        Checked.sentence("2: an offer that is FULL changes nothing", JobBoundariesTest::fullOfferChangesNothing);
        Checked.sentence("2: an offer that is REFUSED changes nothing", JobBoundariesTest::refusedOfferChangesNothing);
    }

    private static void probeSentences() {
        Checked.sentence("3: what offer would answer now", JobBoundariesTest::probeForetells);
        Checked.sentence("3: what offer would answer, for every int", JobBoundariesTest::probesOfManyInts);
        Checked.sentence("3: changing nothing where the job would be taken in", JobBoundariesTest::goodProbeChangesNothing);
        Checked.sentence("3: changing nothing where the answer is BAD", JobBoundariesTest::badProbeChangesNothing);
        Checked.sentence("3: changing nothing where the answer is FULL", JobBoundariesTest::fullProbeChangesNothing);
        Checked.sentence("3: changing nothing where the answer is REFUSED", JobBoundariesTest::refusedProbeChangesNothing);
    }

    private static void moveSentences() {
        Checked.sentence("4: FULL when no job holds the number, for every int", JobBoundariesTest::movesOfNoJob);
        Checked.sentence("4: not FULL when capacity jobs are there", JobBoundariesTest::moveAtCapacity);
        Checked.sentence("4: BAD when r < 0", () -> badMoves(RELEASE_TOO_SMALL));
        Checked.sentence("4: BAD when d > 40", () -> badMoves(DEADLINE_TOO_LARGE));
        Checked.sentence("4: BAD when r > 40", () -> badMoves(RELEASE_TOO_LARGE));
        Checked.sentence("4: BAD when d < 0", () -> badMoves(DEADLINE_TOO_SMALL));
        Checked.sentence("4: BAD when d - r < length", () -> badMoves(WINDOW_TOO_SHORT));
        Checked.sentence("4: not BAD when d - r is just length", JobBoundariesTest::shortestMoves);
        Checked.sentence("4: BAD, for every int", JobBoundariesTest::movesOfManyInts);
        Checked.sentence("4: REFUSED when there would be no good plan", JobBoundariesTest::refusedMoves);
        Checked.sentence("4: the old window does not count any more", JobBoundariesTest::oldWindowIsGone);
        Checked.sentence("4: by the first that applies, FULL before BAD", JobBoundariesTest::fullMoveBeforeBad);
        Checked.sentence("4: by the first that applies, FULL before REFUSED", JobBoundariesTest::fullMoveBeforeRefused);
        Checked.sentence("4: by the first that applies, BAD before REFUSED", JobBoundariesTest::badMoveBeforeRefused);
        Checked.sentence("4: id, and the job has the new window", JobBoundariesTest::movedWindow);
        Checked.sentence("4: a move that is FULL changes nothing", JobBoundariesTest::fullMoveChangesNothing);
        Checked.sentence("4: a move that is BAD changes nothing", JobBoundariesTest::badMoveChangesNothing);
        Checked.sentence("4: a move that is REFUSED changes nothing", JobBoundariesTest::refusedMoveChangesNothing);
    }

    private static void withdrawSentences() {
        Checked.sentence("5: takes the job out and answers true, for every number", JobBoundariesTest::withdrawals);
        Checked.sentence("5: the last job that is there is taken out", JobBoundariesTest::lastWithdrawal);
        Checked.sentence("5: false when no job holds the number, for every int", JobBoundariesTest::withdrawalsOfNoJob);
        Checked.sentence("5: changing nothing when no job holds the number", JobBoundariesTest::falseWithdrawalChangesNothing);
    }

    /** Length 4, three of four numbers held, with room left in a few places only. */
    private static Checked busy() {
        Checked p = new Checked(4, 4);
        p.offer(0, 9).is(0);
        p.offer(2, 12).is(1);
        p.offer(20, 30).is(2);
        p.block(12, 15).is(0);
        p.block(14, 18).is(1);
        return p;
    }

    private static Checked busyAndFull() {
        Checked p = busy();
        p.offer(30, 40).is(3);
        return p;
    }

    /** As busy, but number 1 has been given back, and block number 0 too. */
    private static Checked withGaps() {
        Checked p = busyAndFull();
        p.withdraw(1).is(true);
        p.unblock(0).is(true);
        return p;
    }

    private static Checked empty() {
        return new Checked(4, 4);
    }

    private static Checked emptied() {
        Checked p = busyAndFull();
        for (int id = 0; id < 4; id++) {
            p.withdraw(id).is(true);
        }
        return p;
    }

    private static boolean isBad(int r, int d, int length) {
        return r < 0 || d > 40 || r > 40 || d < 0 || (long) d - r < length;
    }

    /** Times, numbers close to them on both sides, and the ends of the ints. */
    private static int[] oddTimes() {
        int[] near = new int[250];
        for (int i = 0; i < 50; i++) {
            near[i] = MIN + i;
            near[50 + i] = -50 + i;
            near[100 + i] = i;
            near[150 + i] = 50 + i;
            near[200 + i] = MAX - i;
        }
        return near;
    }

    private static void badOffers(int[][] windows) {
        for (int[] w : windows) {
            Checked p = new Checked(4, 4);
            p.offer(w[0], w[1]).is(BAD);
            p.probe(w[0], w[1]).is(BAD);
            p.jobs().is(0);
        }
    }

    private static void shortestOffers() {
        for (int length = 1; length <= 6; length++) {
            for (int r = 0; r <= 41; r++) {
                Checked p = new Checked(length, 4);
                p.offer(r, r + length - 1).is(BAD);
                p.offer(r, r + length).is(r + length <= 40 ? 0 : BAD);
            }
        }
    }

    private static void offersOfManyInts() {
        int[] odd = oddTimes();
        for (int length = 1; length <= 6; length++) {
            for (int r : odd) {
                Checked p = new Checked(length, 1);
                for (int d : odd) {
                    boolean bad = isBad(r, d, length);
                    p.offer(r, d).is(bad ? BAD : 0);
                    p.withdraw(0).is(!bad);
                }
            }
            int span = length;
            forManyWindows((r, d) -> new Checked(span, 1).offer(r, d).is(isBad(r, d, span) ? BAD : 0));
        }
    }

    private interface WindowTest {
        void accept(int r, int d);
    }

    /** Windows that would be good if only the low bits of a number were looked at. */
    private static void forManyWindows(WindowTest test) {
        Checked.forManyInts(odd -> {
            test.accept(odd, 40);
            test.accept(0, odd);
            test.accept(odd, odd + 6);
        });
    }

    private static void fullAtCapacity() {
        for (int capacity = 1; capacity <= 6; capacity++) {
            Checked p = fullOf(capacity);
            p.offer(0, 40).is(FULL);
            p.offer(34, 40).is(FULL);
            p.offer(39, 40).is(FULL);
            p.jobs().is((1 << capacity) - 1);
        }
    }

    private static Checked fullOf(int capacity) {
        Checked p = new Checked(1, capacity);
        for (int id = 0; id < capacity; id++) {
            p.offer(0, 10).is(id);
        }
        return p;
    }

    private static void notFullBelowCapacity() {
        for (int capacity = 1; capacity <= 6; capacity++) {
            for (int id = 0; id < capacity; id++) {
                Checked p = fullOf(capacity);
                p.withdraw(id).is(true);
                p.probe(0, 10).is(id);
                p.offer(0, 10).is(id);
                p.offer(0, 10).is(FULL);
            }
        }
    }

    private static void refusedOffers() {
        Checked p = new Checked(4, 6);
        p.offer(4, 9).is(0);
        p.offer(2, 8).is(REFUSED);
        p.offer(1, 8).is(1);
        p.offer(9, 13).is(2);
        p.offer(8, 16).is(REFUSED);
        p.offer(8, 17).is(3);
        p.block(17, 36).is(0);
        p.offer(0, 39).is(REFUSED);
        p.offer(0, 40).is(4);
        p.offer(0, 40).is(REFUSED);
        p.jobs().is(0b11111);
    }

    private static void badOfferBeforeFull() {
        for (int[][] windows : List.of(RELEASE_TOO_SMALL, DEADLINE_TOO_LARGE, RELEASE_TOO_LARGE, DEADLINE_TOO_SMALL, WINDOW_TOO_SHORT)) {
            for (int[] w : windows) {
                Checked p = busyAndFull();
                p.offer(20, 40).is(FULL);
                p.offer(w[0], w[1]).is(BAD);
                p.probe(w[0], w[1]).is(BAD);
            }
        }
    }

    private static void badOfferBeforeRefused() {
        for (int[][] windows : List.of(RELEASE_TOO_SMALL, DEADLINE_TOO_LARGE, RELEASE_TOO_LARGE, DEADLINE_TOO_SMALL, WINDOW_TOO_SHORT)) {
            for (int[] w : windows) {
                Checked p = empty();
                p.block(0, 40).is(0);
                p.offer(0, 40).is(REFUSED);
                p.offer(w[0], w[1]).is(BAD);
                p.probe(w[0], w[1]).is(BAD);
            }
        }
    }

    private static void fullOfferBeforeRefused() {
        Checked p = busy();
        p.offer(12, 18).is(REFUSED);
        p.offer(5, 11).is(REFUSED);
        p.offer(30, 40).is(3);
        p.offer(12, 18).is(FULL);
        p.offer(5, 11).is(FULL);
        p.probe(12, 18).is(FULL);
        p.withdraw(3).is(true);
        p.offer(12, 18).is(REFUSED);
    }

    private static void leastJobNumber() {
        for (int capacity = 1; capacity <= 6; capacity++) {
            for (int gaps = 1; gaps < 1 << capacity; gaps++) {
                // In both orders, so that neither the newest nor the oldest gap is always the least.
                Checked upwards = fullOf(capacity);
                Checked downwards = fullOf(capacity);
                for (int i = 0; i < capacity; i++) {
                    giveBack(upwards, gaps, i);
                    giveBack(downwards, gaps, capacity - 1 - i);
                }
                fillGaps(upwards, capacity, gaps);
                fillGaps(downwards, capacity, gaps);
            }
        }
    }

    private static void giveBack(Checked p, int gaps, int id) {
        if ((gaps >> id & 1) == 1) {
            p.withdraw(id).is(true);
        }
    }

    private static void fillGaps(Checked p, int capacity, int gaps) {
        for (int id = 0; id < capacity; id++) {
            if ((gaps >> id & 1) == 1) {
                p.probe(0, 10).is(id);
                p.offer(0, 10).is(id);
            }
        }
        p.offer(0, 10).is(FULL);
    }

    private static void offeredWindow() {
        Checked p = busyAndFull();
        p.release(3).is(30);
        p.deadline(3).is(40);
        p.withdraw(0).is(true);
        p.offer(4, 39).is(0);
        p.release(0).is(4);
        p.deadline(0).is(39);
        p.release(1).is(2);
        p.deadline(1).is(12);
    }

    private static void badOfferChangesNothing() {
        for (Supplier<Checked> setting : settings()) {
            Checked.changesNothing(setting, p -> p.offer(-1, 40), BAD);
            Checked.changesNothing(setting, p -> p.offer(0, 41), BAD);
            Checked.changesNothing(setting, p -> p.offer(41, 45), BAD);
            Checked.changesNothing(setting, p -> p.offer(40, MIN), BAD);
            Checked.changesNothing(setting, p -> p.offer(30, 33), BAD);
        }
    }

    private static List<Supplier<Checked>> settings() {
        return List.of(
            JobBoundariesTest::empty, JobBoundariesTest::emptied, JobBoundariesTest::busy, JobBoundariesTest::busyAndFull,
            JobBoundariesTest::withGaps);
    }

    private static void fullOfferChangesNothing() {
        Checked.changesNothing(JobBoundariesTest::busyAndFull, p -> p.offer(30, 40), FULL);
        Checked.changesNothing(JobBoundariesTest::busyAndFull, p -> p.offer(0, 8), FULL);
        for (int capacity = 1; capacity <= 6; capacity++) {
            int most = capacity;
            Checked.changesNothing(() -> fullOf(most), p -> p.offer(20, 30), FULL);
        }
    }

    private static void refusedOfferChangesNothing() {
        Checked.changesNothing(JobBoundariesTest::busy, p -> p.offer(5, 10), REFUSED);
        Checked.changesNothing(JobBoundariesTest::busy, p -> p.offer(10, 21), REFUSED);
        Checked.changesNothing(JobBoundariesTest::withGaps, p -> p.offer(3, 7), REFUSED);
        Checked.changesNothing(JobBoundariesTest::withGaps, p -> p.offer(14, 21), REFUSED);
        Checked.changesNothing(JobBoundariesTest::emptied, p -> p.offer(9, 21), REFUSED);
    }

    private static void probeForetells() {
        for (Supplier<Checked> setting : settings()) {
            for (int r = -2; r <= 42; r++) {
                for (int d = -2; d <= 42; d++) {
                    Checked probed = setting.get();
                    Checked.Answer foretold = probed.probe(r, d);
                    probed.offer(r, d).is(foretold);
                }
            }
        }
        // By hand, in case both were wrong in the same way.
        Checked p = busy();
        p.probe(20, 24).is(3);
        p.probe(5, 11).is(REFUSED);
        p.probe(5, 8).is(BAD);
        p.offer(20, 24).is(3);
        p.probe(20, 24).is(FULL);
        p.withdraw(0).is(true);
        p.probe(5, 11).is(0);
    }

    private static void probesOfManyInts() {
        int[] odd = oddTimes();
        for (int length = 1; length <= 6; length++) {
            for (int r : odd) {
                Checked p = new Checked(length, 1);
                for (int d : odd) {
                    p.probe(r, d).is(isBad(r, d, length) ? BAD : 0);
                }
            }
            int span = length;
            forManyWindows((r, d) -> new Checked(span, 1).probe(r, d).is(isBad(r, d, span) ? BAD : 0));
        }
    }

    private static void goodProbeChangesNothing() {
        Checked.changesNothing(JobBoundariesTest::empty, p -> p.probe(0, 4), 0);
        Checked.changesNothing(JobBoundariesTest::emptied, p -> p.probe(0, 4), 0);
        Checked.changesNothing(JobBoundariesTest::busy, p -> p.probe(20, 24), 3);
        Checked.changesNothing(JobBoundariesTest::busy, p -> p.probe(36, 40), 3);
        Checked.changesNothing(JobBoundariesTest::withGaps, p -> p.probe(0, 8), 1);
    }

    private static void badProbeChangesNothing() {
        for (Supplier<Checked> setting : settings()) {
            Checked.changesNothing(setting, p -> p.probe(-1, 40), BAD);
            Checked.changesNothing(setting, p -> p.probe(0, 41), BAD);
            Checked.changesNothing(setting, p -> p.probe(30, 33), BAD);
        }
    }

    private static void fullProbeChangesNothing() {
        Checked.changesNothing(JobBoundariesTest::busyAndFull, p -> p.probe(30, 40), FULL);
        Checked.changesNothing(JobBoundariesTest::busyAndFull, p -> p.probe(0, 8), FULL);
    }

    private static void refusedProbeChangesNothing() {
        Checked.changesNothing(JobBoundariesTest::busy, p -> p.probe(5, 10), REFUSED);
        Checked.changesNothing(JobBoundariesTest::withGaps, p -> p.probe(14, 21), REFUSED);
        Checked.changesNothing(JobBoundariesTest::emptied, p -> p.probe(9, 21), REFUSED);
    }

    private static void movesOfNoJob() {
        Checked.forManyInts(id -> {
            boolean held = id == 0 || id == 2 || id == 3;
            Checked p = withGaps();
            p.move(id, 0, 40).is(held ? id : FULL);
            p.jobs().is(0b1101);
        });
        for (int id = 0; id < 6; id++) {
            empty().move(id, 0, 40).is(FULL);
            emptied().move(id, 0, 40).is(FULL);
            busy().move(id, 0, 40).is(id < 3 ? id : FULL);
            fullOf(1).move(id, 0, 40).is(id < 1 ? id : FULL);
        }
    }

    private static void moveAtCapacity() {
        for (int capacity = 1; capacity <= 6; capacity++) {
            Checked p = fullOf(capacity);
            for (int id = 0; id < capacity; id++) {
                p.move(id, 20, 40).is(id);
            }
        }
    }

    private static void badMoves(int[][] windows) {
        for (int[] w : windows) {
            Checked p = busy();
            for (int id = 0; id < 3; id++) {
                p.move(id, w[0], w[1]).is(BAD);
            }
            p.release(0).is(0);
            p.deadline(2).is(30);
        }
    }

    private static void shortestMoves() {
        for (int length = 1; length <= 6; length++) {
            Checked p = new Checked(length, 1);
            p.offer(0, 40).is(0);
            for (int r = 0; r <= 41; r++) {
                p.move(0, r, r + length - 1).is(BAD);
                p.move(0, r, r + length).is(r + length <= 40 ? 0 : BAD);
            }
        }
    }

    private static void movesOfManyInts() {
        int[] odd = oddTimes();
        for (int length = 1; length <= 6; length++) {
            for (int r : odd) {
                Checked p = new Checked(length, 1);
                p.offer(0, 40).is(0);
                for (int d : odd) {
                    p.move(0, r, d).is(isBad(r, d, length) ? BAD : 0);
                }
            }
            int span = length;
            forManyWindows((r, d) -> {
                Checked p = new Checked(span, 1);
                p.offer(0, 40).is(0);
                p.move(0, r, d).is(isBad(r, d, span) ? BAD : 0);
            });
        }
    }

    private static void refusedMoves() {
        Checked p = busy();
        p.move(2, 5, 11).is(REFUSED);
        p.move(2, 5, 12).is(2);
        p.move(1, 0, 8).is(1);
        p.move(2, 5, 11).is(REFUSED);
        p.move(0, 12, 21).is(REFUSED);
        p.move(0, 12, 22).is(0);
        p.plannedStart(0).is(18);
    }

    private static void oldWindowIsGone() {
        for (int length = 1; length <= 6; length++) {
            Checked p = new Checked(length, 2);
            p.offer(10, 10 + length).is(0);
            for (int r = 10 - length; r <= 10 + length; r++) {
                p.move(0, r, r + length).is(0);
                p.plannedStart(0).is(r);
            }
            p.offer(10, 10 + length).is(1);
            p.move(1, 10 + length, 10 + 2 * length).is(REFUSED);
            p.move(0, 10, 10 + length).is(REFUSED);
            p.move(1, 9, 10 + length).is(1);
        }
    }

    private static void fullMoveBeforeBad() {
        for (int id : new int[] {MIN, -1, 1, 4, 5, 6, 32, MAX}) {
            Checked p = withGaps();
            p.move(id, -1, 40).is(FULL);
            p.move(id, 0, 41).is(FULL);
            p.move(id, 41, 45).is(FULL);
            p.move(id, 40, MIN).is(FULL);
            p.move(id, 10, 13).is(FULL);
        }
    }

    private static void fullMoveBeforeRefused() {
        Checked p = withGaps();
        p.move(0, 13, 21).is(REFUSED);
        p.move(1, 13, 21).is(FULL);
        p.move(4, 13, 21).is(FULL);
        p.move(-1, 13, 21).is(FULL);
        Checked q = emptied();
        q.move(0, 12, 18).is(FULL);
    }

    private static void badMoveBeforeRefused() {
        Checked p = busy();
        p.move(0, 12, 18).is(REFUSED);
        p.move(0, 13, 16).is(BAD);
        p.move(0, 18, 12).is(BAD);
        p.move(0, -4, 0).is(BAD);
        p.move(0, 37, 41).is(BAD);
        p.release(0).is(0);
    }

    private static void movedWindow() {
        Checked p = busyAndFull();
        p.move(1, 36, 40).is(1);
        p.release(1).is(36);
        p.deadline(1).is(40);
        p.plannedStart(1).is(36);
        p.move(0, 0, 4).is(0);
        p.release(0).is(0);
        p.deadline(0).is(4);
        p.release(2).is(20);
        p.deadline(3).is(40);
        p.jobs().is(0b1111);
    }

    private static void fullMoveChangesNothing() {
        for (int id : new int[] {MIN, -32, -1, 4, 5, 6, 7, 32, 33, 64, MAX}) {
            for (Supplier<Checked> setting : settings()) {
                Checked.changesNothing(setting, p -> p.move(id, 20, 40), FULL);
            }
        }
        Checked.changesNothing(JobBoundariesTest::withGaps, p -> p.move(1, 20, 40), FULL);
        Checked.changesNothing(JobBoundariesTest::emptied, p -> p.move(0, 20, 40), FULL);
        Checked.changesNothing(JobBoundariesTest::busy, p -> p.move(3, 20, 40), FULL);
    }

    private static void badMoveChangesNothing() {
        Checked.changesNothing(JobBoundariesTest::busy, p -> p.move(0, -1, 40), BAD);
        Checked.changesNothing(JobBoundariesTest::busy, p -> p.move(1, 0, 41), BAD);
        Checked.changesNothing(JobBoundariesTest::busy, p -> p.move(2, 41, 45), BAD);
        Checked.changesNothing(JobBoundariesTest::busyAndFull, p -> p.move(3, 40, MIN), BAD);
        Checked.changesNothing(JobBoundariesTest::withGaps, p -> p.move(0, 20, 23), BAD);
    }

    private static void refusedMoveChangesNothing() {
        Checked.changesNothing(JobBoundariesTest::busy, p -> p.move(0, 12, 20), REFUSED);
        Checked.changesNothing(JobBoundariesTest::busy, p -> p.move(2, 5, 10), REFUSED);
        Checked.changesNothing(JobBoundariesTest::busyAndFull, p -> p.move(3, 5, 9), REFUSED);
        Checked.changesNothing(JobBoundariesTest::withGaps, p -> p.move(2, 14, 21), REFUSED);
    }

    private static void withdrawals() {
        for (int capacity = 1; capacity <= 6; capacity++) {
            for (int id = 0; id < capacity; id++) {
                Checked p = fullOf(capacity);
                p.withdraw(id).is(true);
                p.jobs().is((1 << capacity) - 1 - (1 << id));
                p.release(id).is(NONE);
                p.earliestEnd().is(capacity - 1);
                p.withdraw(id).is(false);
            }
        }
    }

    private static void lastWithdrawal() {
        Checked p = emptied();
        p.jobs().is(0);
        p.earliestEnd().is(0);
        p.latestBegin().is(40);
        p.block(0, 40).is(2);
        p.withdraw(0).is(false);
    }

    private static void withdrawalsOfNoJob() {
        Checked.forManyInts(id -> {
            boolean held = id == 0 || id == 2 || id == 3;
            Checked p = withGaps();
            p.withdraw(id).is(held);
            p.jobs().is(held ? 0b1101 & ~(1 << id) : 0b1101);
        });
        for (int id = 0; id < 6; id++) {
            empty().withdraw(id).is(false);
            emptied().withdraw(id).is(false);
        }
    }

    private static void falseWithdrawalChangesNothing() {
        for (int id : new int[] {MIN, -32, -1, 4, 5, 6, 7, 32, 33, 34, 64, MAX}) {
            for (Supplier<Checked> setting : settings()) {
                Checked.changesNothing(setting, p -> p.withdraw(id), 0);
            }
        }
        Checked.changesNothing(JobBoundariesTest::withGaps, p -> p.withdraw(1), 0);
        Checked.changesNothing(JobBoundariesTest::emptied, p -> p.withdraw(0), 0);
        Checked.changesNothing(JobBoundariesTest::busy, p -> p.withdraw(3), 0);
    }

    private static void noJobNoBit() {
        empty().jobs().is(0);
        emptied().jobs().is(0);
        Checked p = empty();
        p.block(0, 40).is(0);
        p.offer(0, 40).is(REFUSED);
        p.jobs().is(0);
    }

    private static void aBitForEachJob() {
        for (int held = 0; held < 64; held++) {
            Checked p = fullOf(6);
            for (int id = 0; id < 6; id++) {
                if ((held >> id & 1) == 0) {
                    p.withdraw(id).is(true);
                }
            }
            p.jobs().is(held);
        }
    }

    private static void allBits() {
        for (int capacity = 1; capacity <= 6; capacity++) {
            fullOf(capacity).jobs().is((1 << capacity) - 1);
        }
    }

    private static void releases() {
        for (int r = 0; r <= 39; r++) {
            Checked p = new Checked(1, 2);
            p.offer(r, 40).is(0);
            p.release(0).is(r);
            p.offer(0, 40).is(1);
            p.release(0).is(r);
            p.release(1).is(0);
            p.move(1, r, 40).is(r < 39 ? 1 : REFUSED);
            p.release(1).is(r < 39 ? r : 0);
        }
    }

    private static void noRelease() {
        Checked.forManyInts(id -> withGaps().release(id).is(id == 0 ? 0 : id == 2 ? 20 : id == 3 ? 30 : NONE));
        for (int id = 0; id < 6; id++) {
            empty().release(id).is(NONE);
            emptied().release(id).is(NONE);
        }
    }

    private static void deadlines() {
        for (int d = 1; d <= 40; d++) {
            Checked p = new Checked(1, 2);
            p.offer(0, d).is(0);
            p.deadline(0).is(d);
            p.offer(0, 40).is(1);
            p.deadline(0).is(d);
            p.deadline(1).is(40);
            p.move(1, 0, d).is(d > 1 ? 1 : REFUSED);
            p.deadline(1).is(d > 1 ? d : 40);
        }
    }

    private static void noDeadline() {
        Checked.forManyInts(id -> withGaps().deadline(id).is(id == 0 ? 9 : id == 2 ? 30 : id == 3 ? 40 : NONE));
        for (int id = 0; id < 6; id++) {
            empty().deadline(id).is(NONE);
            emptied().deadline(id).is(NONE);
        }
    }
}
