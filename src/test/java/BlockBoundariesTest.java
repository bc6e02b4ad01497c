import java.util.List;
import java.util.function.Supplier;

/** The boundary sentences of promises 6 and 7, a test for each. */
public final class BlockBoundariesTest {
    private static final int BAD = Checked.BAD;
    private static final int FULL = Checked.FULL;
    private static final int REFUSED = Checked.REFUSED;
    private static final int MIN = Checked.MIN;
    private static final int MAX = Checked.MAX;

    private static final int[][] BEGIN_TOO_SMALL = {{-1, 40}, {-1, 1}, {-1, 0}, {-40, 40}, {MIN, 1}, {MIN, 40}, {MIN, MAX}, {-2, -1}};
    private static final int[][] NOT_BEFORE_ITS_END = {{0, 0}, {20, 20}, {40, 40}, {1, 0}, {40, 0}, {40, 39}, {5, -1}, {0, MIN}, {40, MIN}, {MAX, 40}, {MAX, MIN}};
    private static final int[][] END_TOO_LARGE = {{0, 41}, {39, 41}, {40, 41}, {41, 42}, {0, 1000}, {0, MAX}, {40, MAX}, {MAX - 1, MAX}};

    public static void main(String[] args) {
        Checked.sentence("6: BAD unless 0 <= a", () -> badBlocks(BEGIN_TOO_SMALL));
        Checked.sentence("6: BAD unless a < b", () -> badBlocks(NOT_BEFORE_ITS_END));
        Checked.sentence("6: BAD unless b <= 40", () -> badBlocks(END_TOO_LARGE));
        Checked.sentence("6: BAD unless 0 <= a < b <= 40, for every int", BlockBoundariesTest::blocksOfManyInts);
        Checked.sentence("6: FULL when 4 blocks are there", BlockBoundariesTest::fullAtFour);
        Checked.sentence("6: not FULL when 3 blocks are there", BlockBoundariesTest::notFullAtThree);
        Checked.sentence("6: REFUSED when with this block there would be no good plan", BlockBoundariesTest::refusedBlocks);
        Checked.sentence("6: not REFUSED when another good plan is left", BlockBoundariesTest::jobsGiveWay);
        Checked.sentence("6: never REFUSED when there are no jobs", BlockBoundariesTest::neverRefusedWithoutJobs);
        Checked.sentence("6: never REFUSED when there are no jobs any more", BlockBoundariesTest::neverRefusedAfterTheJobs);
        Checked.sentence("6: by the first that applies, BAD before FULL", BlockBoundariesTest::badBeforeFull);
        Checked.sentence("6: by the first that applies, BAD before REFUSED", BlockBoundariesTest::badBeforeRefused);
        Checked.sentence("6: by the first that applies, FULL before REFUSED", BlockBoundariesTest::fullBeforeRefused);
        Checked.sentence("6: under the least number no block holds", BlockBoundariesTest::leastBlockNumber);
        Checked.sentence("6: blocks may overlap one another", BlockBoundariesTest::blocksOverlap);
        Checked.sentence("6: a block that is BAD changes nothing", BlockBoundariesTest::badBlockChangesNothing);
        Checked.sentence("6: a block that is FULL changes nothing", BlockBoundariesTest::fullBlockChangesNothing);
        Checked.sentence("6: a block that is REFUSED changes nothing", BlockBoundariesTest::refusedBlockChangesNothing);
        Checked.sentence("7: takes block number k away and answers true", BlockBoundariesTest::blocksGo);
        Checked.sentence("7: where blocks overlap, the other one stays", BlockBoundariesTest::theOtherStays);
        Checked.sentence("7: false when there is no block with that number, for every int", BlockBoundariesTest::noSuchBlock);
        Checked.sentence("7: changing nothing when there is no block with that number", BlockBoundariesTest::falseUnblockChangesNothing);
        Checked.end();
    }

    /** Length 3, three jobs that still have a little room, and two blocks. */
    private static Checked busy() {
        Checked p = new Checked(3, 4);
        p.offer(0, 8).is(0);
        p.offer(10, 14).is(1);
        p.offer(0, 40).is(2);
        p.block(20, 25).is(0);
        p.block(24, 30).is(1);
        return p;
    }

    private static Checked busyAndFull() {
        Checked p = busy();
        p.block(14, 15).is(2);
        p.block(38, 40).is(3);
        return p;
    }

    /** As busy and full, but block number 1 has been given back, and job number 0 too. */
    private static Checked withGaps() {
        Checked p = busyAndFull();
        p.unblock(1).is(true);
        p.withdraw(0).is(true);
        return p;
    }

    private static Checked empty() {
        return new Checked(3, 4);
    }

    private static List<Supplier<Checked>> settings() {
        return List.of(BlockBoundariesTest::empty, BlockBoundariesTest::busy, BlockBoundariesTest::busyAndFull, BlockBoundariesTest::withGaps);
    }

    private static void badBlocks(int[][] blocks) {
        for (int[] w : blocks) {
            for (Supplier<Checked> setting : settings()) {
                setting.get().block(w[0], w[1]).is(BAD);
            }
            Checked p = empty();
            p.block(w[0], w[1]).is(BAD);
            p.unblock(0).is(false);
            for (int t = 0; t <= 37; t++) {
                p.open(t).is(true);
            }
        }
    }

    private static void blocksOfManyInts() {
        int[] odd = new int[250];
        for (int i = 0; i < 50; i++) {
            odd[i] = MIN + i;
            odd[50 + i] = -50 + i;
            odd[100 + i] = i;
            odd[150 + i] = 50 + i;
            odd[200 + i] = MAX - i;
        }
        for (int a : odd) {
            Checked p = empty();
            for (int b : odd) {
                boolean good = 0 <= a && a < b && b <= 40;
                p.block(a, b).is(good ? 0 : BAD);
                p.unblock(0).is(good);
            }
        }
        Checked.forManyInts(t -> {
            empty().block(t, 40).is(t >= 0 && t < 40 ? 0 : BAD);
            empty().block(0, t).is(t > 0 && t <= 40 ? 0 : BAD);
            empty().block(t, t + 1).is(t >= 0 && t < 40 ? 0 : BAD);
        });
    }

    private static void fullAtFour() {
        for (Supplier<Checked> setting : settings()) {
            Checked p = setting.get();
            for (int i = 0; i < 4; i++) {
                p.block(39, 40);
            }
            p.block(39, 40).is(FULL);
            p.block(0, 40).is(FULL);
            p.block(38, 39).is(FULL);
        }
    }

    private static void notFullAtThree() {
        for (int k = 0; k < 4; k++) {
            Checked p = busyAndFull();
            p.unblock(k).is(true);
            p.block(39, 40).is(k);
            p.block(39, 40).is(FULL);
        }
    }

    private static void refusedBlocks() {
        Checked p = busy();
        // Job 0 can be done from 0 to 3 or from 5 to 8, and somewhere in between.
        p.block(2, 6).is(REFUSED);
        p.block(3, 6).is(2);
        // Job 1 needs 10 to 13 or 11 to 14.
        p.block(12, 13).is(REFUSED);
        p.block(11, 13).is(REFUSED);
        p.block(10, 11).is(3);
        p.plannedStart(0).is(0);
        p.plannedStart(1).is(11);

        for (int length = 1; length <= 6; length++) {
            for (int a = 0; a < 40; a++) {
                refusedInPlaceOf(length, a);
            }
        }
    }

    /** One job with one possible start, and a block of one time at each place. */
    private static void refusedInPlaceOf(int length, int a) {
        for (int s = 0; s + length <= 40; s++) {
            Checked p = new Checked(length, 1);
            p.offer(s, s + length).is(0);
            p.block(a, a + 1).is(a >= s && a < s + length ? REFUSED : 0);
        }
    }

    private static void jobsGiveWay() {
        for (int length = 1; length <= 6; length++) {
            Checked p = new Checked(length, 2);
            p.offer(0, 2 * length).is(0);
            p.offer(0, 40).is(1);
            // The block stands where the first plan has the jobs, but they can be done behind it.
            p.block(0, length).is(0);
            p.plannedStart(0).is(length);
            p.plannedStart(1).is(2 * length);
            p.block(2 * length, 40 - length).is(1);
            p.plannedStart(1).is(40 - length);
            p.block(39, 40).is(REFUSED);
            p.plannedStart(1).is(40 - length);
        }
    }

    private static void neverRefusedWithoutJobs() {
        for (int length = 1; length <= 6; length++) {
            for (int a = 0; a < 40; a++) {
                for (int b = a + 1; b <= 40; b++) {
                    Checked p = new Checked(length, 1);
                    p.block(a, b).is(0);
                    p.block(0, 40).is(1);
                    p.block(a, b).is(2);
                    p.block(0, 40).is(3);
                }
            }
        }
    }

    private static void neverRefusedAfterTheJobs() {
        Checked p = new Checked(6, 6);
        for (int id = 0; id < 6; id++) {
            p.offer(0, 40).is(id);
        }
        for (int id = 0; id < 6; id++) {
            p.block(10, 15).is(REFUSED);
            p.block(0, 40).is(REFUSED);
            p.withdraw(id).is(true);
            p.offer(0, 40).is(id);
        }
        for (int id = 0; id < 6; id++) {
            p.block(0, 40).is(REFUSED);
            p.withdraw(id).is(true);
        }
        p.block(0, 40).is(0);
        p.block(0, 40).is(1);
    }

    private static void badBeforeFull() {
        for (int[][] blocks : List.of(BEGIN_TOO_SMALL, NOT_BEFORE_ITS_END, END_TOO_LARGE)) {
            for (int[] w : blocks) {
                Checked p = busyAndFull();
                p.block(30, 31).is(FULL);
                p.block(w[0], w[1]).is(BAD);
            }
        }
    }

    private static void badBeforeRefused() {
        for (int[][] blocks : List.of(BEGIN_TOO_SMALL, NOT_BEFORE_ITS_END, END_TOO_LARGE)) {
            for (int[] w : blocks) {
                // A block anywhere would be refused here, but for the four times that are left over.
                Checked p = new Checked(6, 6);
                for (int id = 0; id < 6; id++) {
                    p.offer(0, 36).is(id);
                }
                p.block(0, 36).is(REFUSED);
                p.block(w[0], w[1]).is(BAD);
            }
        }
    }

    private static void fullBeforeRefused() {
        Checked p = busyAndFull();
        p.block(12, 13).is(FULL);
        p.block(0, 40).is(FULL);
        p.unblock(3).is(true);
        p.block(12, 13).is(REFUSED);
        p.block(0, 40).is(REFUSED);
        p.block(30, 40).is(3);
    }

    private static void leastBlockNumber() {
        for (int gaps = 1; gaps < 16; gaps++) {
            Checked upwards = busyAndFull();
            Checked downwards = busyAndFull();
            for (int i = 0; i < 4; i++) {
                giveBack(upwards, gaps, i);
                giveBack(downwards, gaps, 3 - i);
            }
            fillGaps(upwards, gaps);
            fillGaps(downwards, gaps);
        }
    }

    private static void giveBack(Checked p, int gaps, int k) {
        if ((gaps >> k & 1) == 1) {
            p.unblock(k).is(true);
        }
    }

    private static void fillGaps(Checked p, int gaps) {
        for (int k = 0; k < 4; k++) {
            if ((gaps >> k & 1) == 1) {
                p.block(12, 13).is(REFUSED);
                p.block(30 + k, 35).is(k);
            }
        }
        p.block(30, 35).is(FULL);
    }

    private static void blocksOverlap() {
        // The same, one inside the other, and one partly over the other, at either side.
        int[][] others = {{10, 20}, {12, 18}, {10, 11}, {19, 20}, {5, 25}, {5, 15}, {15, 25}, {19, 21}, {9, 11}, {0, 40}};
        for (int[] other : others) {
            Checked p = new Checked(1, 1);
            p.block(10, 20).is(0);
            p.block(other[0], other[1]).is(1);
            p.block(other[0], other[1]).is(2);
            p.block(10, 20).is(3);
            for (int t = 0; t < 40; t++) {
                boolean covered = t >= 10 && t < 20 || t >= other[0] && t < other[1];
                p.open(t).is(!covered);
            }
        }
    }

    private static void badBlockChangesNothing() {
        for (Supplier<Checked> setting : settings()) {
            Checked.changesNothing(setting, p -> p.block(-1, 40), BAD);
            Checked.changesNothing(setting, p -> p.block(30, 30), BAD);
            Checked.changesNothing(setting, p -> p.block(35, 30), BAD);
            Checked.changesNothing(setting, p -> p.block(30, 41), BAD);
            Checked.changesNothing(setting, p -> p.block(MIN, MAX), BAD);
        }
    }

    private static void fullBlockChangesNothing() {
        Checked.changesNothing(BlockBoundariesTest::busyAndFull, p -> p.block(30, 38), FULL);
        Checked.changesNothing(BlockBoundariesTest::busyAndFull, p -> p.block(0, 1), FULL);
        Checked.changesNothing(BlockBoundariesTest::busyAndFull, p -> p.block(10, 14), FULL);
    }

    private static void refusedBlockChangesNothing() {
        Checked.changesNothing(BlockBoundariesTest::busy, p -> p.block(12, 13), REFUSED);
        Checked.changesNothing(BlockBoundariesTest::busy, p -> p.block(0, 40), REFUSED);
        Checked.changesNothing(BlockBoundariesTest::busy, p -> p.block(2, 6), REFUSED);
        Checked.changesNothing(BlockBoundariesTest::withGaps, p -> p.block(12, 13), REFUSED);
        Checked.changesNothing(BlockBoundariesTest::withGaps, p -> p.block(0, 40), REFUSED);
    }

    private static void blocksGo() {
        for (int k = 0; k < 4; k++) {
            Checked p = new Checked(1, 1);
            for (int i = 0; i < 4; i++) {
                p.block(10 * i, 10 * i + 10).is(i);
            }
            p.unblock(k).is(true);
            for (int t = 0; t < 40; t++) {
                p.open(t).is(t / 10 == k);
            }
            p.offer(0, 40).is(0);
            p.plannedStart(0).is(10 * k);
            p.unblock(k).is(false);
            p.block(10 * k, 10 * k + 10).is(REFUSED);
        }
    }

    private static void theOtherStays() {
        Checked p = new Checked(1, 1);
        p.block(10, 20).is(0);
        p.block(10, 20).is(1);
        p.block(15, 25).is(2);
        p.unblock(0).is(true);
        coversJust(p, 10, 25);
        p.unblock(1).is(true);
        coversJust(p, 15, 25);
        p.block(5, 16).is(0);
        p.unblock(2).is(true);
        coversJust(p, 5, 16);
        p.unblock(0).is(true);
        coversJust(p, 0, 0);
    }

    private static void coversJust(Checked p, int a, int b) {
        for (int t = 0; t < 40; t++) {
            p.open(t).is(t < a || t >= b);
        }
    }

    private static void noSuchBlock() {
        Checked.forManyInts(k -> {
            boolean held = k == 0 || k == 2 || k == 3;
            Checked p = withGaps();
            p.unblock(k).is(held);
            p.unblock(k).is(false);
            empty().unblock(k).is(false);
        });
    }

    private static void falseUnblockChangesNothing() {
        for (int k : new int[] {MIN, -32, -31, -1, 4, 5, 6, 31, 32, 33, 34, 35, 64, MAX}) {
            for (Supplier<Checked> setting : settings()) {
                Checked.changesNothing(setting, p -> p.unblock(k), 0);
            }
        }
        Checked.changesNothing(BlockBoundariesTest::withGaps, p -> p.unblock(1), 0);
        Checked.changesNothing(BlockBoundariesTest::busy, p -> p.unblock(2), 0);
        Checked.changesNothing(BlockBoundariesTest::empty, p -> p.unblock(0), 0);
    }
}
