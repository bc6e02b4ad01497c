import java.util.List;
import java.util.function.Supplier;

/** The boundary sentences of promises 11 to 16, a test for each. */
public final class PlanBoundariesTest {
    private static final int REFUSED = Checked.REFUSED;
    private static final int NONE = Checked.NONE;
    private static final int MIN = Checked.MIN;
    private static final int MAX = Checked.MAX;

    public static void main(String[] args) {
        endSentences();
        beginSentences();
        startSentences();
        openSentences();
        plannedSentences();
        Checked.sentence("11 to 16: what only asks changes nothing", PlanBoundariesTest::askingChangesNothing);
        Checked.end();
    }

    private static void endSentences() {
        Checked.sentence("11: 0 when there are no jobs", PlanBoundariesTest::endWithoutJobs);
        Checked.sentence("11: the least time by which all jobs are done, from length to 40", PlanBoundariesTest::endOfOneJob);
        Checked.sentence("11: in some good plan, not only in the first plan", PlanBoundariesTest::endOfAnotherPlan);
        Checked.sentence("11: with every number held", PlanBoundariesTest::endOfSixJobs);
    }

    private static void beginSentences() {
        Checked.sentence("12: 40 when there are no jobs", PlanBoundariesTest::beginWithoutJobs);
        Checked.sentence("12: some good plan starts no job before t, from 0 to 40 - length", PlanBoundariesTest::beginOfOneJob);
        Checked.sentence("12: the greatest such t, with blocks and other jobs behind", PlanBoundariesTest::beginOfSomeJobs);
        Checked.sentence("12: with every number held", PlanBoundariesTest::beginOfSixJobs);
    }

    private static void startSentences() {
        Checked.sentence("13: NONE when no job holds the number", PlanBoundariesTest::noEarliestStart);
        Checked.sentence("13: the least s in some good plan, whatever the job's number", PlanBoundariesTest::earliestStarts);
        Checked.sentence("14: NONE when no job holds the number", PlanBoundariesTest::noLatestStart);
        Checked.sentence("14: the greatest s in some good plan, whatever the job's number", PlanBoundariesTest::latestStarts);
    }

    private static void openSentences() {
        Checked.sentence("15: false when t < 0", PlanBoundariesTest::closedBeforeTime);
        Checked.sentence("15: false when t + length > 40", PlanBoundariesTest::closedAfterTime);
        Checked.sentence("15: t may be any int; false for every t above 40", PlanBoundariesTest::closedForOddTimes);
        Checked.sentence("15: true at the first and the last t", PlanBoundariesTest::openAtTheEnds);
        Checked.sentence("15: whether with a further job there would be a good plan", PlanBoundariesTest::openAsProbed);
        Checked.sentence("15: the jobs that are there may be planned otherwise", PlanBoundariesTest::openWhereJobsGiveWay);
        Checked.sentence("15: the capacity does not matter", PlanBoundariesTest::openAtCapacity);
    }

    private static void plannedSentences() {
        Checked.sentence("16: NONE when no job holds the number", PlanBoundariesTest::noPlannedStart);
        Checked.sentence("16: the job with the least number starts as early as in any good plan", PlanBoundariesTest::leastNumberFirst);
        Checked.sentence("16: among those plans the next number starts as early as in any", PlanBoundariesTest::nextNumberNext);
        Checked.sentence("16: the order of the numbers, not of the offers", PlanBoundariesTest::numbersTakenAgain);
        Checked.sentence("16: a job that has been taken out does not count", PlanBoundariesTest::jobsThatHaveGone);
        Checked.sentence("16: a job that has been moved keeps its place in the order", PlanBoundariesTest::movedJobs);
        Checked.sentence("16: with every number held", PlanBoundariesTest::sixJobs);
        Checked.sentence("16: least in the dictionary order, for every three small windows", PlanBoundariesTest::everyThreeWindows);
    }

    private static Checked empty() {
        return new Checked(3, 4);
    }

    /** Numbers 0, 2 and 3 are held, number 1 was. */
    private static Checked withGap() {
        Checked p = new Checked(3, 5);
        p.offer(0, 7).is(0);
        p.offer(0, 40).is(1);
        p.offer(4, 20).is(2);
        p.offer(30, 40).is(3);
        p.withdraw(1).is(true);
        p.block(9, 12).is(0);
        return p;
    }

    private static Checked emptied() {
        Checked p = withGap();
        p.withdraw(0).is(true);
        p.withdraw(2).is(true);
        p.withdraw(3).is(true);
        return p;
    }

    private static Checked allBlocked() {
        Checked p = emptied();
        p.block(0, 40).is(1);
        return p;
    }

    private static List<Supplier<Checked>> settingsWithoutJobs() {
        return List.of(PlanBoundariesTest::empty, PlanBoundariesTest::emptied, PlanBoundariesTest::allBlocked);
    }

    private static Checked sixOf(int length, int r, int d) {
        Checked p = new Checked(length, 6);
        for (int id = 0; id < 6; id++) {
            p.offer(r, d).is(id);
        }
        return p;
    }

    private static void endWithoutJobs() {
        for (Supplier<Checked> setting : settingsWithoutJobs()) {
            Checked p = setting.get();
            p.earliestEnd().is(0);
            p.offer(0, 2).is(Checked.BAD);
            p.probe(0, 40);
            p.earliestEnd().is(0);
        }
    }

    private static void endOfOneJob() {
        for (int length = 1; length <= 6; length++) {
            for (int r = 0; r + length <= 40; r++) {
                Checked p = new Checked(length, 1);
                p.offer(r, 40).is(0);
                p.earliestEnd().is(r + length);
                p.move(0, 0, 40).is(0);
                p.earliestEnd().is(length);
                if (r > 0) {
                    p.block(0, r).is(0);
                    p.earliestEnd().is(r + length);
                }
            }
        }
    }

    private static void endOfAnotherPlan() {
        Checked p = new Checked(4, 3);
        p.offer(2, 40).is(0);
        p.offer(0, 40).is(1);
        // Job 0 at 2 and job 1 at 6, or job 1 at 0 and job 0 at 4.
        p.plannedStart(0).is(2);
        p.plannedStart(1).is(6);
        p.earliestEnd().is(8);
        p.block(8, 12).is(0);
        p.earliestEnd().is(8);
        p.offer(1, 40).is(2);
        p.earliestEnd().is(16);
    }

    private static void endOfSixJobs() {
        for (int length = 1; length <= 6; length++) {
            sixOf(length, 0, 40).earliestEnd().is(6 * length);
            sixOf(length, 40 - 6 * length, 40).earliestEnd().is(40);
        }
    }

    private static void beginWithoutJobs() {
        for (Supplier<Checked> setting : settingsWithoutJobs()) {
            Checked p = setting.get();
            p.latestBegin().is(40);
            p.offer(0, 2).is(Checked.BAD);
            p.probe(0, 40);
            p.latestBegin().is(40);
        }
    }

    private static void beginOfOneJob() {
        for (int length = 1; length <= 6; length++) {
            for (int d = length; d <= 40; d++) {
                Checked p = new Checked(length, 1);
                p.offer(0, d).is(0);
                p.latestBegin().is(d - length);
                p.move(0, 0, 40).is(0);
                p.latestBegin().is(40 - length);
                if (d < 40) {
                    p.block(d, 40).is(0);
                    p.latestBegin().is(d - length);
                }
            }
        }
    }

    private static void beginOfSomeJobs() {
        Checked p = new Checked(4, 3);
        p.offer(0, 20).is(0);
        p.offer(0, 40).is(1);
        p.latestBegin().is(16);
        p.move(1, 0, 20).is(1);
        p.latestBegin().is(12);
        p.block(14, 15).is(0);
        // Between the block and the deadline there is room for one of the two.
        p.latestBegin().is(10);
        p.block(19, 20).is(1);
        p.latestBegin().is(10);
        p.block(18, 19).is(2);
        p.latestBegin().is(6);
        p.offer(0, 4).is(2);
        p.latestBegin().is(0);
    }

    private static void beginOfSixJobs() {
        for (int length = 1; length <= 6; length++) {
            sixOf(length, 0, 40).latestBegin().is(40 - 6 * length);
            sixOf(length, 0, 6 * length).latestBegin().is(0);
        }
    }

    private static void noEarliestStart() {
        Checked.forManyInts(id -> withGap().earliestStart(id).is(id == 0 ? 0 : id == 2 ? 4 : id == 3 ? 30 : NONE));
        for (int id = 0; id < 7; id++) {
            empty().earliestStart(id).is(NONE);
            emptied().earliestStart(id).is(NONE);
            Checked tried = withGap();
            tried.probe(20, 30).is(1);
            tried.open(20).is(true);
            tried.earliestStart(id).is(id == 0 ? 0 : id == 2 ? 4 : id == 3 ? 30 : NONE);
        }
    }

    private static void earliestStarts() {
        for (int length = 1; length <= 6; length++) {
            Checked p = sixOf(length, 0, 6 * length);
            for (int id = 0; id < 6; id++) {
                p.earliestStart(id).is(0);
            }
        }
        Checked p = new Checked(3, 3);
        p.offer(2, 6).is(0);
        p.offer(0, 20).is(1);
        // Job 0 at 2 or 3: only at 3 is there room for job 1 before it.
        p.earliestStart(1).is(0);
        p.earliestStart(0).is(2);
        p.move(0, 2, 5).is(0);
        p.earliestStart(1).is(5);
        p.block(6, 8).is(0);
        p.earliestStart(1).is(8);
        p.offer(9, 13).is(2);
        p.earliestStart(1).is(12);
        p.earliestStart(2).is(9);
    }

    private static void noLatestStart() {
        Checked.forManyInts(id -> withGap().latestStart(id).is(id == 0 ? 4 : id == 2 ? 17 : id == 3 ? 37 : NONE));
        for (int id = 0; id < 7; id++) {
            empty().latestStart(id).is(NONE);
            emptied().latestStart(id).is(NONE);
            Checked tried = withGap();
            tried.probe(20, 30).is(1);
            tried.open(20).is(true);
            tried.latestStart(id).is(id == 0 ? 4 : id == 2 ? 17 : id == 3 ? 37 : NONE);
        }
    }

    private static void latestStarts() {
        for (int length = 1; length <= 6; length++) {
            Checked p = sixOf(length, 0, 6 * length);
            for (int id = 0; id < 6; id++) {
                p.latestStart(id).is(5 * length);
            }
        }
        Checked p = new Checked(3, 3);
        p.offer(34, 38).is(0);
        p.offer(20, 40).is(1);
        // Job 0 at 34 or 35: only at 34 is there room for job 1 behind it.
        p.latestStart(1).is(37);
        p.latestStart(0).is(35);
        p.move(0, 35, 38).is(0);
        p.latestStart(1).is(32);
        p.block(32, 34).is(0);
        p.latestStart(1).is(29);
        p.offer(27, 31).is(2);
        p.latestStart(1).is(25);
        p.latestStart(2).is(28);
    }

    private static void closedBeforeTime() {
        for (int length = 1; length <= 6; length++) {
            for (int t : new int[] {-1, -2, -6, -7, -40, -41, -1000, MIN, MIN + 1, MIN + 40}) {
                new Checked(length, 1).open(t).is(false);
            }
        }
    }

    private static void closedAfterTime() {
        for (int length = 1; length <= 6; length++) {
            Checked p = new Checked(length, 1);
            for (int t = 41 - length; t <= 41 + length; t++) {
                p.open(t).is(false);
            }
            for (int back = 0; back <= 7; back++) {
                p.open(MAX - back).is(false);
            }
        }
    }

    private static void closedForOddTimes() {
        for (int length = 1; length <= 6; length++) {
            int span = length;
            Checked.forManyInts(t -> new Checked(span, 1).open(t).is(t >= 0 && t <= 40 - span));
            Checked.forManyInts(t -> {
                Checked full = new Checked(span, 1);
                full.offer(0, span).is(0);
                full.open(t).is(t >= span && t <= 40 - span);
            });
        }
    }

    private static void openAtTheEnds() {
        for (int length = 1; length <= 6; length++) {
            Checked p = new Checked(length, 1);
            p.open(0).is(true);
            p.open(40 - length).is(true);
            p.offer(length, 40 - length).is(0);
            p.open(0).is(true);
            p.open(40 - length).is(true);
            p.block(length, length + 1).is(0);
            p.open(0).is(true);
            p.open(1).is(false);
            p.block(39 - length, 40 - length).is(1);
            p.open(40 - length).is(true);
            p.open(39 - length).is(false);
        }
    }

    private static void openAsProbed() {
        Checked p = withGap();
        for (int t = 0; t <= 37; t++) {
            p.open(t).is(p.probe(t, t + 3).value() != REFUSED);
        }
        // By hand, in case both were wrong in the same way.
        p.open(0).is(true);
        p.open(1).is(true);
        p.open(2).is(false);
        p.open(3).is(true);
        p.open(5).is(true);
        p.open(6).is(true);
        p.open(7).is(false);
        p.open(11).is(false);
        p.open(12).is(true);
    }

    private static void openWhereJobsGiveWay() {
        for (int length = 2; length <= 6; length++) {
            Checked p = new Checked(length, 2);
            p.offer(10, 11 + length).is(0);
            p.open(10 - length).is(true);
            p.open(11 - length).is(true);
            p.open(12 - length).is(false);
            p.open(9 + length).is(false);
            p.open(10 + length).is(true);
            p.open(11 + length).is(true);
            p.plannedStart(0).is(10);
        }
    }

    private static void openAtCapacity() {
        for (int length = 1; length <= 6; length++) {
            for (int capacity = 1; capacity <= 6 && (capacity + 1) * length <= 40; capacity++) {
                Checked p = new Checked(length, capacity);
                for (int id = 0; id < capacity; id++) {
                    p.offer(0, (capacity + 1) * length).is(id);
                }
                p.offer(0, 40).is(Checked.FULL);
                for (int t = 0; t <= capacity * length; t++) {
                    // One more just fits in, if it leaves whole places on both its sides.
                    p.open(t).is(t % length == 0);
                }
                p.block(0, 1).is(0);
                p.open(length).is(false);
                p.open(40 - length).is(true);
                p.jobs().is((1 << capacity) - 1);
            }
        }
    }

    private static void noPlannedStart() {
        Checked.forManyInts(id -> withGap().plannedStart(id).is(id == 0 ? 0 : id == 2 ? 4 : id == 3 ? 30 : NONE));
        for (int id = 0; id < 7; id++) {
            empty().plannedStart(id).is(NONE);
            emptied().plannedStart(id).is(NONE);
            Checked tried = withGap();
            tried.probe(20, 30).is(1);
            tried.open(20).is(true);
            tried.plannedStart(id).is(id == 0 ? 0 : id == 2 ? 4 : id == 3 ? 30 : NONE);
        }
    }

    private static void starts(Checked p, int... due) {
        for (int id = 0; id < due.length; id++) {
            p.plannedStart(id).is(due[id]);
        }
    }

    private static void leastNumberFirst() {
        Checked p = new Checked(3, 3);
        p.offer(1, 40).is(0);
        p.offer(0, 40).is(1);
        // Number 1 could be done before, but then number 0 would start later than it can.
        starts(p, 1, 4);
        p.offer(0, 4).is(2);
        // Now the first one has to wait for number 2, which starts at 0 or at 1.
        starts(p, 3, 6, 0);
        p.move(2, 2, 5).is(2);
        starts(p, 5, 8, 2);
        p.block(5, 7).is(0);
        starts(p, 7, 10, 2);
    }

    private static void nextNumberNext() {
        Checked p = new Checked(4, 4);
        p.offer(2, 40).is(0);
        p.offer(0, 40).is(1);
        p.offer(5, 11).is(2);
        // Job 1 has to wait for job 2; with job 1 first all would be done sooner, but not job 0.
        starts(p, 2, 10, 6);
        p.earliestEnd().is(13);
        p.move(2, 5, 14).is(2);
        starts(p, 2, 6, 10);
        p.offer(6, 12).is(3);
        starts(p, 2, 14, 10, 6);
        p.move(2, 5, 40).is(2);
        starts(p, 2, 10, 14, 6);
    }

    private static void numbersTakenAgain() {
        Checked p = new Checked(3, 4);
        for (int id = 0; id < 4; id++) {
            p.offer(0, 40).is(id);
        }
        starts(p, 0, 3, 6, 9);
        p.withdraw(0).is(true);
        starts(p, NONE, 0, 3, 6);
        p.offer(1, 40).is(0);
        starts(p, 1, 4, 7, 10);
        p.withdraw(2).is(true);
        p.withdraw(1).is(true);
        starts(p, 1, NONE, NONE, 4);
        p.offer(0, 40).is(1);
        starts(p, 1, 4, NONE, 7);
        p.offer(0, 4).is(2);
        starts(p, 3, 6, 0, 9);
        p.withdraw(0).is(true);
        p.offer(9, 40).is(0);
        starts(p, 9, 3, 0, 6);
    }

    private static void jobsThatHaveGone() {
        Checked p = new Checked(3, 3);
        p.offer(0, 3).is(0);
        p.offer(0, 40).is(1);
        p.offer(3, 6).is(2);
        starts(p, 0, 6, 3);
        p.withdraw(0).is(true);
        starts(p, NONE, 0, 3);
        p.withdraw(2).is(true);
        p.move(1, 2, 40).is(1);
        starts(p, NONE, 2, NONE);
        p.withdraw(1).is(true);
        starts(p, NONE, NONE, NONE);
    }

    private static void movedJobs() {
        Checked p = new Checked(3, 3);
        for (int id = 0; id < 3; id++) {
            p.offer(0, 40).is(id);
        }
        p.move(0, 1, 40).is(0);
        starts(p, 1, 4, 7);
        p.move(1, 0, 39).is(1);
        starts(p, 1, 4, 7);
        p.move(0, 3, 40).is(0);
        starts(p, 3, 0, 6);
        p.move(0, 0, 2).is(Checked.BAD);
        p.move(1, 3, 6).is(1);
        starts(p, 6, 3, 0);
        p.move(2, 4, 7).is(REFUSED);
        starts(p, 6, 3, 0);
    }

    private static void sixJobs() {
        for (int length = 1; length <= 6; length++) {
            Checked p = sixOf(length, 0, 40);
            for (int id = 0; id < 6; id++) {
                p.plannedStart(id).is(id * length);
            }
            // The last number takes the first place, and all others make room for it.
            p.move(5, 0, length).is(5);
            p.plannedStart(5).is(0);
            for (int id = 0; id < 5; id++) {
                p.plannedStart(id).is((id + 1) * length);
            }
        }
    }

    /** Length 2, times up to 6, so that three jobs have to give way to one another. */
    private static void everyThreeWindows() {
        int[][] windows = new int[15][];
        int made = 0;
        for (int r = 0; r <= 4; r++) {
            for (int d = r + 2; d <= 6; d++) {
                windows[made++] = new int[] {r, d};
            }
        }
        for (int[] first : windows) {
            for (int[] second : windows) {
                for (int[] third : windows) {
                    plansOf(first, second, third);
                }
            }
        }
    }

    private static void plansOf(int[] first, int[] second, int[] third) {
        int[] due = firstPlan(first, second, third);
        Checked inOrder = new Checked(2, 3);
        inOrder.offer(first[0], first[1]).is(0);
        boolean two = inOrder.offer(second[0], second[1]).value() == 1;
        if (!two) {
            return;
        }
        inOrder.offer(third[0], third[1]).is(due == null ? REFUSED : 2);
        if (due == null) {
            return;
        }
        starts(inOrder, due);
        starts(offeredBackwards(first, second, third), due);
    }

    /** The same jobs under the same numbers, but each number was held by another job before. */
    private static Checked offeredBackwards(int[] first, int[] second, int[] third) {
        Checked p = new Checked(2, 3);
        p.offer(20, 30).is(0);
        p.offer(20, 30).is(1);
        p.offer(third[0], third[1]).is(2);
        p.withdraw(1).is(true);
        p.offer(second[0], second[1]).is(1);
        p.withdraw(0).is(true);
        p.offer(first[0], first[1]).is(0);
        return p;
    }

    private static int[] firstPlan(int[] first, int[] second, int[] third) {
        for (int s = first[0]; s + 2 <= first[1]; s++) {
            for (int t = second[0]; t + 2 <= second[1]; t++) {
                for (int u = third[0]; u + 2 <= third[1]; u++) {
                    if (Math.abs(s - t) >= 2 && Math.abs(s - u) >= 2 && Math.abs(t - u) >= 2) {
                        return new int[] {s, t, u};
                    }
                }
            }
        }
        return null;
    }

    private static void askingChangesNothing() {
        for (Supplier<Checked> setting : List.<Supplier<Checked>>of(PlanBoundariesTest::empty, PlanBoundariesTest::withGap)) {
            boolean jobs = setting.get().jobs().value() != 0;
            Checked.changesNothing(setting, Checked::jobs, jobs ? 0b1101 : 0);
            Checked.changesNothing(setting, Checked::earliestEnd, jobs ? 33 : 0);
            Checked.changesNothing(setting, Checked::latestBegin, jobs ? 4 : 40);
            Checked.changesNothing(setting, p -> p.open(0), 1);
            Checked.changesNothing(setting, p -> p.open(38), 0);
            Checked.changesNothing(setting, p -> p.release(2), jobs ? 4 : NONE);
            Checked.changesNothing(setting, p -> p.deadline(2), jobs ? 20 : NONE);
            Checked.changesNothing(setting, p -> p.earliestStart(2), jobs ? 4 : NONE);
            Checked.changesNothing(setting, p -> p.latestStart(0), jobs ? 4 : NONE);
            Checked.changesNothing(setting, p -> p.plannedStart(3), jobs ? 30 : NONE);
            Checked.changesNothing(setting, p -> p.plannedStart(1), NONE);
            Checked.changesNothing(setting, p -> p.earliestStart(6), NONE);
        }
    }
}
