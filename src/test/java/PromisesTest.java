/** Each promise of the document in turn: ordinary inputs, the edges it names, and wrong inputs. */
public final class PromisesTest {
    private static final int BAD = EqualJobPlanner.BAD;
    private static final int FULL = EqualJobPlanner.FULL;
    private static final int REFUSED = EqualJobPlanner.REFUSED;
    private static final int NONE = EqualJobPlanner.NONE;
    private static final int MIN = Integer.MIN_VALUE;
    private static final int MAX = Integer.MAX_VALUE;
    private static final int[] NO_NUMBERS = {MIN, MIN + 1, -33, -32, -1, 6, 7, 31, 32, 33, 64, MAX - 1, MAX};

    private static int wrong = 0;

    public static void main(String[] args) {
        constants();
        promise1NewObject();
        promise1Clamps();
        promise2Offer();
        promise2OfferOrder();
        promise3Probe();
        promise4Move();
        promise4MoveOrder();
        promise5Withdraw();
        promise6Block();
        promise6BlockOrder();
        promise7Unblock();
        promise8Jobs();
        promises9And10Windows();
        promise11EarliestEnd();
        promise12LatestBegin();
        promises13And14Starts();
        promise15Open();
        promise16PlannedStart();
        answersThatOnlyAskChangeNothing();
        System.out.println(wrong == 0 ? "all answers are as due" : wrong + " answers are not as due");
        if (wrong != 0) {
            System.exit(1);
        }
    }

    private static void due(String call, int got, int want) {
        if (got != want) {
            wrong++;
            System.out.println(call + " answered " + got + ", due is " + want);
        }
    }

    private static void due(String call, boolean got, boolean want) {
        if (got != want) {
            wrong++;
            System.out.println(call + " answered " + got + ", due is " + want);
        }
    }

    private static void constants() {
        due("BAD", BAD, -1);
        due("FULL", FULL, -2);
        due("REFUSED", REFUSED, -3);
        due("NONE", NONE, -1);
    }

    private static void promise1NewObject() {
        EqualJobPlanner p = new EqualJobPlanner(3, 4);
        due("1: jobs of a new object", p.jobs(), 0);
        due("1: earliestEnd of a new object", p.earliestEnd(), 0);
        due("1: latestBegin of a new object", p.latestBegin(), 40);
        for (int k = 0; k < 4; k++) {
            due("1: unblock(" + k + ") of a new object", p.unblock(k), false);
        }
        for (int id = 0; id < 6; id++) {
            due("1: withdraw(" + id + ") of a new object", p.withdraw(id), false);
            due("1: release(" + id + ") of a new object", p.release(id), NONE);
        }
        for (int t = 0; t <= 37; t++) {
            due("1: open(" + t + ") of a new object", p.open(t), true);
        }
    }

    private static void promise1Clamps() {
        int[][] clamped = {{MIN, 1}, {-1, 1}, {0, 1}, {1, 1}, {2, 2}, {3, 3}, {4, 4}, {5, 5}, {6, 6}, {7, 6}, {100, 6}, {MAX, 6}};
        for (int[] pair : clamped) {
            EqualJobPlanner byLength = new EqualJobPlanner(pair[0], 6);
            due("1: too short a window for length " + pair[0], byLength.offer(0, pair[1] - 1), BAD);
            due("1: just enough for length " + pair[0], byLength.offer(0, pair[1]), 0);
            due("1: the end for length " + pair[0], byLength.earliestEnd(), pair[1]);

            EqualJobPlanner byCapacity = new EqualJobPlanner(1, pair[0]);
            for (int i = 0; i < pair[1]; i++) {
                due("1: offer " + i + " for capacity " + pair[0], byCapacity.offer(0, 40), i);
            }
            due("1: one more for capacity " + pair[0], byCapacity.offer(0, 40), FULL);
        }
    }

    private static void promise2Offer() {
        EqualJobPlanner p = new EqualJobPlanner(4, 4);
        due("2: offer(0, 40)", p.offer(0, 40), 0);
        due("2: offer(36, 40)", p.offer(36, 40), 1);
        due("2: offer(0, 4)", p.offer(0, 4), 2);
        due("2: offer(1, 5)", p.offer(1, 5), REFUSED);
        due("2: jobs after a refusal", p.jobs(), 0b111);
        due("2: release(3) after a refusal", p.release(3), NONE);
        due("2: withdraw(1)", p.withdraw(1), true);
        due("2: the least number is taken again", p.offer(4, 8), 1);
        due("2: a job right behind another", p.plannedStart(1), 4);
        due("2: then the next number", p.offer(8, 12), 3);
        due("2: jobs", p.jobs(), 0b1111);
        due("2: its release", p.release(3), 8);
        due("2: its deadline", p.deadline(3), 12);
    }

    private static void promise2OfferOrder() {
        int[][] wrongWindows = {
            {-1, 10}, {0, 41}, {41, 40}, {41, 60}, {0, -1}, {5, 8}, {0, 3}, {37, 40}, {10, 5}, {40, 40}, {40, 0},
            {-1, 3}, {37, 41}, {MIN, 0}, {MIN, MAX}, {MAX, MIN}, {0, MAX}, {0, MIN}, {MAX, 40}, {MAX, MAX}, {MIN, MIN},
            {40, MIN}, {MIN, 40}, {2, MIN}, {20, MIN + 5}};
        EqualJobPlanner p = new EqualJobPlanner(4, 1);
        for (int[] w : wrongWindows) {
            due("2: offer(" + w[0] + ", " + w[1] + ")", p.offer(w[0], w[1]), BAD);
            due("3: probe(" + w[0] + ", " + w[1] + ")", p.probe(w[0], w[1]), BAD);
        }
        due("2: jobs after wrong offers", p.jobs(), 0);
        due("2: offer(10, 14)", p.offer(10, 14), 0);
        for (int[] w : wrongWindows) {
            due("2: BAD comes before FULL: offer(" + w[0] + ", " + w[1] + ")", p.offer(w[0], w[1]), BAD);
        }
        due("2: FULL comes before REFUSED", p.offer(10, 14), FULL);
        due("2: FULL where it would fit", p.offer(20, 24), FULL);
        due("2: jobs when full", p.jobs(), 1);
        due("2: release when full", p.release(0), 10);
    }

    private static void promise3Probe() {
        EqualJobPlanner p = new EqualJobPlanner(5, 2);
        due("3: probe(0, 5)", p.probe(0, 5), 0);
        due("3: probe(0, 5) again", p.probe(0, 5), 0);
        due("3: jobs after probes", p.jobs(), 0);
        due("3: release(0) after probes", p.release(0), NONE);
        due("3: offer(0, 9)", p.offer(0, 9), 0);
        due("3: a probe that is refused", p.probe(0, 9), REFUSED);
        due("3: a probe that fits", p.probe(0, 10), 1);
        due("3: the window stays", p.deadline(0), 9);
        due("3: the plan stays", p.plannedStart(0), 0);
        due("3: the latest start stays", p.latestStart(0), 4);
        due("3: offer(30, 40)", p.offer(30, 40), 1);
        due("3: a probe when full", p.probe(0, 40), FULL);
        due("3: a wrong probe when full", p.probe(0, 4), BAD);
        due("3: withdraw(0)", p.withdraw(0), true);
        due("3: the least number", p.probe(0, 40), 0);
    }

    private static void promise4Move() {
        EqualJobPlanner p = new EqualJobPlanner(3, 3);
        p.offer(0, 3);
        p.offer(3, 6);
        due("4: onto the other job", p.move(1, 0, 3), REFUSED);
        due("4: release after a refusal", p.release(1), 3);
        due("4: deadline after a refusal", p.deadline(1), 6);
        due("4: plan after a refusal", p.plannedStart(1), 3);
        due("4: to the same window", p.move(1, 3, 6), 1);
        due("4: overlapping only its own old window", p.move(1, 4, 7), 1);
        due("4: release after a move", p.release(1), 4);
        due("4: deadline after a move", p.deadline(1), 7);
        due("4: plan after a move", p.plannedStart(1), 4);
        due("4: the other job stays", p.release(0), 0);
        due("4: to the end", p.move(0, 37, 40), 0);
        due("4: to the whole time", p.move(1, 0, 40), 1);
        due("4: jobs", p.jobs(), 0b11);
        p.block(0, 10);
        due("4: into a block", p.move(1, 0, 12), REFUSED);
        due("4: behind a block", p.move(1, 0, 13), 1);
        due("4: plan behind a block", p.plannedStart(1), 10);
    }

    private static void promise4MoveOrder() {
        EqualJobPlanner p = new EqualJobPlanner(3, 3);
        p.offer(5, 20);
        p.offer(20, 23);
        for (int id : NO_NUMBERS) {
            due("4: move(" + id + ", 0, 10)", p.move(id, 0, 10), FULL);
            due("4: FULL comes before BAD: move(" + id + ", 10, 0)", p.move(id, 10, 0), FULL);
        }
        due("4: no such job yet", p.move(2, 0, 10), FULL);
        int[][] wrongWindows = {
            {-1, 10}, {0, 41}, {41, 44}, {10, -1}, {5, 7}, {38, 40}, {20, 10}, {MIN, MAX}, {MAX, MIN}, {MIN, 0}, {0, MIN}, {40, MIN}};
        for (int[] w : wrongWindows) {
            due("4: move(0, " + w[0] + ", " + w[1] + ")", p.move(0, w[0], w[1]), BAD);
        }
        due("4: release after wrong moves", p.release(0), 5);
        due("4: deadline after wrong moves", p.deadline(0), 20);
        due("4: a move when not at capacity", p.move(0, 21, 24), REFUSED);
        p.offer(30, 33);
        due("4: a move at capacity", p.move(0, 23, 26), 0);
        p.withdraw(0);
        due("4: a job that has gone", p.move(0, 0, 10), FULL);
        due("4: and stays away", p.jobs(), 0b110);
    }

    private static void promise5Withdraw() {
        EqualJobPlanner p = new EqualJobPlanner(2, 6);
        for (int i = 0; i < 6; i++) {
            p.offer(0, 12);
        }
        for (int id : NO_NUMBERS) {
            due("5: withdraw(" + id + ")", p.withdraw(id), false);
        }
        due("5: jobs after wrong withdrawals", p.jobs(), 0b111111);
        due("5: nothing is free", p.open(10), false);
        due("5: withdraw(3)", p.withdraw(3), true);
        due("5: withdraw(3) again", p.withdraw(3), false);
        due("5: jobs", p.jobs(), 0b110111);
        due("5: its room is free", p.open(10), true);
        due("5: its start", p.plannedStart(3), NONE);
        due("5: its release", p.release(3), NONE);
        due("5: its deadline", p.deadline(3), NONE);
        due("5: withdraw(0)", p.withdraw(0), true);
        due("5: withdraw(5)", p.withdraw(5), true);
        due("5: jobs after three", p.jobs(), 0b010110);
        due("5: the end after three", p.earliestEnd(), 6);
    }

    private static void promise6Block() {
        EqualJobPlanner p = new EqualJobPlanner(5, 6);
        due("6: the whole time, with no jobs", p.block(0, 40), 0);
        due("6: once more, overlapping", p.block(0, 40), 1);
        due("6: nothing is open", p.open(10), false);
        due("6: an offer is refused", p.offer(0, 40), REFUSED);
        due("6: unblock(0)", p.unblock(0), true);
        due("6: still blocked by the other", p.offer(0, 40), REFUSED);
        due("6: the least number again", p.block(10, 20), 0);
        due("6: unblock(1)", p.unblock(1), true);
        due("6: a job right before the block", p.offer(0, 10), 0);
        due("6: its latest start", p.latestStart(0), 5);
        due("6: a job right behind the block", p.offer(6, 26), 1);
        due("6: its earliest start", p.earliestStart(1), 20);
        due("6: a block that leaves just room", p.block(0, 5), 1);
        due("6: a block that leaves none", p.block(9, 10), REFUSED);
        due("6: the plan stays", p.plannedStart(0), 5);
        due("6: the number was not taken", p.unblock(2), false);
        due("6: a block of one time", p.block(20, 21), 2);
        due("6: the plan moves", p.plannedStart(1), 21);
        due("6: inside a span", p.block(23, 24), REFUSED);
        due("6: at the end", p.block(39, 40), 3);
    }

    private static void promise6BlockOrder() {
        int[][] wrongBlocks = {
            {-1, 5}, {0, 41}, {5, 5}, {6, 5}, {0, 0}, {40, 40}, {40, 41}, {41, 42}, {-2, -1}, {MIN, MAX}, {MAX, MIN}, {0, MAX},
            {MIN, 40}, {MIN, MIN}, {MAX, MAX}, {0, MIN}};
        EqualJobPlanner p = new EqualJobPlanner(5, 1);
        p.offer(0, 5);
        for (int k = 0; k < 4; k++) {
            for (int[] w : wrongBlocks) {
                due("6: block(" + w[0] + ", " + w[1] + ")", p.block(w[0], w[1]), BAD);
            }
            due("6: REFUSED with " + k + " blocks", p.block(4, 5), REFUSED);
            due("6: block number", p.block(5, 6 + k), k);
        }
        for (int[] w : wrongBlocks) {
            due("6: BAD comes before FULL: block(" + w[0] + ", " + w[1] + ")", p.block(w[0], w[1]), BAD);
        }
        due("6: FULL comes before REFUSED", p.block(0, 5), FULL);
        due("6: FULL where it would do no harm", p.block(30, 31), FULL);
        due("6: the plan stays", p.plannedStart(0), 0);
        due("6: the rest stays open", p.open(30), true);
        due("6: unblock(2)", p.unblock(2), true);
        due("6: the freed number", p.block(30, 31), 2);
    }

    private static void promise7Unblock() {
        EqualJobPlanner p = new EqualJobPlanner(6, 6);
        p.block(0, 10);
        p.block(5, 20);
        for (int k : NO_NUMBERS) {
            due("7: unblock(" + k + ")", p.unblock(k), false);
        }
        due("7: unblock(4)", p.unblock(4), false);
        due("7: unblock(5)", p.unblock(5), false);
        due("7: unblock(2), never there", p.unblock(2), false);
        due("7: nothing has changed", p.open(0), false);
        due("7: nothing has changed there either", p.open(14), false);
        due("7: unblock(1)", p.unblock(1), true);
        due("7: unblock(1) again", p.unblock(1), false);
        due("7: what only it covered is free", p.open(10), true);
        due("7: what the other covers is not", p.open(9), false);
        due("7: unblock(0)", p.unblock(0), true);
        due("7: all is free", p.open(0), true);
        p.block(0, 1);
        p.block(1, 2);
        p.block(2, 3);
        p.block(3, 4);
        due("7: unblock(3)", p.unblock(3), true);
        due("7: up to the third block", p.open(3), true);
        due("7: not before", p.open(2), false);
    }

    private static void promise8Jobs() {
        EqualJobPlanner p = new EqualJobPlanner(1, 6);
        int held = 0;
        for (int id = 0; id < 6; id++) {
            p.offer(0, 40);
            held |= 1 << id;
            due("8: jobs after offer " + id, p.jobs(), held);
        }
        int[] order = {4, 0, 5, 2, 1, 3};
        for (int id : order) {
            p.withdraw(id);
            held &= ~(1 << id);
            due("8: jobs after withdrawal of " + id, p.jobs(), held);
        }
    }

    private static void promises9And10Windows() {
        EqualJobPlanner p = new EqualJobPlanner(1, 6);
        for (int id = 0; id < 6; id++) {
            p.offer(id, 40 - id);
        }
        for (int id = 0; id < 6; id++) {
            due("9: release(" + id + ")", p.release(id), id);
            due("10: deadline(" + id + ")", p.deadline(id), 40 - id);
        }
        p.block(0, 5);
        due("9: a block does not change the release", p.release(0), 0);
        p.block(35, 40);
        due("10: a block does not change the deadline", p.deadline(0), 40);
        for (int id : NO_NUMBERS) {
            due("9: release(" + id + ")", p.release(id), NONE);
            due("10: deadline(" + id + ")", p.deadline(id), NONE);
        }
        p.withdraw(2);
        due("9: release of a job that has gone", p.release(2), NONE);
        due("10: deadline of a job that has gone", p.deadline(2), NONE);
    }

    private static void promise11EarliestEnd() {
        EqualJobPlanner p = new EqualJobPlanner(3, 6);
        p.block(0, 7);
        due("11: no jobs, though blocked", p.earliestEnd(), 0);
        p.offer(0, 40);
        due("11: behind the block", p.earliestEnd(), 10);
        p.offer(8, 11);
        due("11: two jobs", p.earliestEnd(), 14);
        p.move(1, 10, 13);
        due("11: the other job before it", p.earliestEnd(), 13);
        p.move(1, 37, 40);
        due("11: at the end", p.earliestEnd(), 40);
        p.withdraw(1);
        p.withdraw(0);
        due("11: no jobs any more", p.earliestEnd(), 0);

        EqualJobPlanner q = new EqualJobPlanner(4, 2);
        q.offer(0, 20);
        q.offer(2, 20);
        due("11: with the order free", q.earliestEnd(), 8);
        q.block(6, 8);
        due("11: first plan, job 0", q.plannedStart(0), 0);
        due("11: first plan, job 1", q.plannedStart(1), 8);
        due("11: around a block", q.earliestEnd(), 12);
    }

    private static void promise12LatestBegin() {
        EqualJobPlanner p = new EqualJobPlanner(3, 6);
        p.block(30, 40);
        due("12: no jobs, though blocked", p.latestBegin(), 40);
        p.offer(0, 40);
        due("12: before the block", p.latestBegin(), 27);
        p.offer(0, 40);
        due("12: two jobs", p.latestBegin(), 24);
        p.offer(0, 3);
        due("12: a job that must start at 0", p.latestBegin(), 0);
        p.withdraw(2);
        p.offer(0, 4);
        due("12: a job that may start at 1", p.latestBegin(), 1);
        p.withdraw(0);
        p.withdraw(1);
        p.withdraw(2);
        due("12: no jobs any more", p.latestBegin(), 40);
        p.unblock(0);
        p.offer(0, 40);
        due("12: the last start there is", p.latestBegin(), 37);
    }

    private static void promises13And14Starts() {
        EqualJobPlanner p = new EqualJobPlanner(4, 6);
        p.offer(0, 40);
        due("13: alone", p.earliestStart(0), 0);
        due("14: alone", p.latestStart(0), 36);
        p.offer(1, 6);
        due("13: no room before the other", p.earliestStart(0), 5);
        due("13: the other", p.earliestStart(1), 1);
        due("14: the other", p.latestStart(1), 2);
        p.offer(33, 39);
        due("14: no room behind the third", p.latestStart(0), 31);
        due("13: the third", p.earliestStart(2), 33);
        due("14: the third", p.latestStart(2), 35);
        p.move(2, 33, 38);
        due("14: no room behind the third, which may end at 38", p.latestStart(0), 30);
        due("6: job 1 is in the way", p.block(3, 8), REFUSED);
        due("13: job 1 keeps its room", p.earliestStart(1), 1);
        p.move(1, 0, 40);
        due("6: job 1 is out of the way", p.block(3, 8), 0);
        due("13: behind the block", p.earliestStart(1), 8);
        p.block(29, 31);
        due("14: between the block and the third", p.latestStart(0), 25);
        for (int id : NO_NUMBERS) {
            due("13: earliestStart(" + id + ")", p.earliestStart(id), NONE);
            due("14: latestStart(" + id + ")", p.latestStart(id), NONE);
        }
        due("13: no job 3", p.earliestStart(3), NONE);
        due("14: no job 3", p.latestStart(3), NONE);
        p.withdraw(0);
        due("13: a job that has gone", p.earliestStart(0), NONE);
        due("14: a job that has gone", p.latestStart(0), NONE);

        // The first plan puts job 0 first; job 1 could still be the early one.
        EqualJobPlanner q = new EqualJobPlanner(2, 2);
        q.offer(0, 4);
        q.offer(0, 4);
        due("13: job 1 could come first", q.earliestStart(1), 0);
        due("16: but does not", q.plannedStart(1), 2);
        due("14: job 0 could come last", q.latestStart(0), 2);
        q.move(1, 30, 32);
        due("13: a window with room for one start", q.earliestStart(1), 30);
        due("14: a window with room for one start", q.latestStart(1), 30);
    }

    private static void promise15Open() {
        EqualJobPlanner p = new EqualJobPlanner(3, 1);
        int[] outside = {MIN, MIN + 1, -3, -2, -1, 38, 39, 40, 41, 42, 1000, MAX - 3, MAX - 2, MAX - 1, MAX};
        for (int t : outside) {
            due("15: open(" + t + ")", p.open(t), false);
        }
        due("15: open(0)", p.open(0), true);
        due("15: open(37)", p.open(37), true);
        p.offer(10, 14);
        due("15: the capacity does not matter", p.open(20), true);
        due("15: right before", p.open(7), true);
        due("15: the job moves out of the way", p.open(8), true);
        due("15: the job cannot move so far", p.open(9), false);
        due("15: the job moves the other way", p.open(13), true);
        due("15: but not so far", p.open(12), false);
        due("15: asking takes nothing in", p.jobs(), 1);
        p.block(20, 22);
        due("15: touching the block", p.open(17), true);
        due("15: overlapping the block", p.open(18), false);
        due("15: inside the block", p.open(21), false);
        due("15: behind the block", p.open(22), true);

        EqualJobPlanner six = new EqualJobPlanner(1, 6);
        for (int i = 0; i < 6; i++) {
            six.offer(0, 7);
        }
        for (int t = 0; t < 7; t++) {
            due("15: a seventh job at " + t, six.open(t), true);
        }
        six.block(3, 4);
        due("15: no room for a seventh", six.open(0), false);
        due("15: room elsewhere", six.open(39), true);

        EqualJobPlanner one = new EqualJobPlanner(1, 1);
        due("15: open(39) at length 1", one.open(39), true);
        due("15: open(40) at length 1", one.open(40), false);
        EqualJobPlanner long6 = new EqualJobPlanner(6, 1);
        due("15: open(34) at length 6", long6.open(34), true);
        due("15: open(35) at length 6", long6.open(35), false);
    }

    private static void promise16PlannedStart() {
        EqualJobPlanner p = new EqualJobPlanner(3, 6);
        p.offer(0, 20);
        p.offer(0, 20);
        p.offer(0, 5);
        due("16: job 0 before job 2 does not fit", p.plannedStart(0), 3);
        due("16: job 1", p.plannedStart(1), 6);
        due("16: job 2", p.plannedStart(2), 0);
        p.move(2, 0, 6);
        due("16: now job 0 is first", p.plannedStart(0), 0);
        due("16: and job 2 second", p.plannedStart(2), 3);
        due("16: and job 1 last", p.plannedStart(1), 6);
        p.withdraw(0);
        due("16: job 1 moves up", p.plannedStart(1), 0);
        due("16: job 2 stays", p.plannedStart(2), 3);
        due("16: a job that has gone", p.plannedStart(0), NONE);
        p.offer(1, 20);
        due("16: the new job 0 counts before job 1", p.plannedStart(0), 3);
        due("16: job 2 makes room for it", p.plannedStart(2), 0);
        due("16: job 1 comes last", p.plannedStart(1), 6);
        p.block(6, 9);
        due("16: before the block", p.plannedStart(0), 3);
        due("16: behind the block", p.plannedStart(1), 9);
        for (int id : NO_NUMBERS) {
            due("16: plannedStart(" + id + ")", p.plannedStart(id), NONE);
        }
        due("16: no job 3", p.plannedStart(3), NONE);

        // All would be done sooner with job 1 first, but job 0 counts before that.
        EqualJobPlanner q = new EqualJobPlanner(4, 3);
        q.offer(2, 40);
        q.offer(0, 40);
        q.offer(5, 11);
        due("16: job 0 starts at its release", q.plannedStart(0), 2);
        due("16: job 2 right behind", q.plannedStart(2), 6);
        due("16: job 1 last", q.plannedStart(1), 10);
        due("11: another plan ends sooner", q.earliestEnd(), 13);
    }

    private static void answersThatOnlyAskChangeNothing() {
        EqualJobPlanner p = new EqualJobPlanner(3, 4);
        p.offer(0, 20);
        p.offer(4, 12);
        p.offer(5, 9);
        p.block(12, 14);
        for (int round = 0; round < 3; round++) {
            due("asking: earliestEnd", p.earliestEnd(), 11);
            due("asking: latestBegin", p.latestBegin(), 6);
            due("asking: earliestStart(0)", p.earliestStart(0), 0);
            due("asking: latestStart(0)", p.latestStart(0), 17);
            due("asking: plannedStart(0)", p.plannedStart(0), 0);
            due("asking: plannedStart(1)", p.plannedStart(1), 8);
            due("asking: plannedStart(2)", p.plannedStart(2), 5);
            due("asking: open(3)", p.open(3), true);
            due("asking: open(4)", p.open(4), false);
            due("asking: probe(0, 6)", p.probe(0, 6), 3);
            due("asking: probe(5, 8)", p.probe(5, 8), REFUSED);
            due("asking: jobs", p.jobs(), 0b111);
            due("asking: release(1)", p.release(1), 4);
            due("asking: deadline(2)", p.deadline(2), 9);
        }
    }
}
