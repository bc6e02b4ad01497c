/** A planner for one machine whose jobs all take equally long. */
public final class EqualJobPlanner {
    public static final int BAD = -1;
    public static final int FULL = -2;
    public static final int REFUSED = -3;
    public static final int NONE = -1;

    private static final int LAST_TIME = 40;
    private static final int TIMES = 41;
    // Later than every deadline, so a job that would end then never fits.
    private static final int NEVER = 1000;
    private static final int MOST_LENGTH = 6;
    private static final int MOST_JOBS = 6;
    private static final int MOST_BLOCKS = 4;
    // One slot more than there can be jobs: a job that is only being tried goes there.
    private static final int TRIED = 6;
    private static final int SLOTS = 7;
    private static final int SETS = 128;

    private final int length;
    private final int capacity;

    private int heldJobs = 0;
    private final int[] releases = new int[MOST_JOBS];
    private final int[] deadlines = new int[MOST_JOBS];

    private int heldBlocks = 0;
    private final int[] blockBegins = new int[MOST_BLOCKS];
    private final int[] blockEnds = new int[MOST_BLOCKS];
    // For each time the least start from then on that no block hinders, or NEVER.
    private final int[] freeStarts = new int[TIMES];

    // Questions narrow these copies of the windows, so that asking changes no job.
    private final int[] trialReleases = new int[SLOTS];
    private final int[] trialDeadlines = new int[SLOTS];
    // For each set of jobs, as bits, the least time by which they can all be done, or NEVER.
    private final int[] leastEnds = new int[SETS];

    public EqualJobPlanner(int length, int capacity) {
        this.length = clamp(length, MOST_LENGTH);
        this.capacity = clamp(capacity, MOST_JOBS);
        findFreeStarts();
    }

    public int offer(int r, int d) {
        int answer = probe(r, d);
        if (answer >= 0) {
            setWindow(answer, r, d);
            heldJobs |= 1 << answer;
        }
        return answer;
    }

    public int probe(int r, int d) {
        if (!isWindow(r, d)) {
            return BAD;
        }
        int number = leastFree(heldJobs);
        if (number >= capacity) {
            return FULL;
        }
        return fitsBeside(r, d) ? number : REFUSED;
    }

    public int move(int id, int r, int d) {
        if (!holdsJob(id)) {
            return FULL;
        }
        if (!isWindow(r, d)) {
            return BAD;
        }
        copyWindows();
        trialReleases[id] = r;
        trialDeadlines[id] = d;
        if (!fits(heldJobs)) {
            return REFUSED;
        }
        setWindow(id, r, d);
        return id;
    }

    public boolean withdraw(int id) {
        if (!holdsJob(id)) {
            return false;
        }
        heldJobs &= ~(1 << id);
        return true;
    }

    public int block(int a, int b) {
        if (a < 0 || a >= b || b > LAST_TIME) {
            return BAD;
        }
        int number = leastFree(heldBlocks);
        if (number >= MOST_BLOCKS) {
            return FULL;
        }
        blockBegins[number] = a;
        blockEnds[number] = b;
        heldBlocks |= 1 << number;
        findFreeStarts();
        copyWindows();
        if (!fits(heldJobs)) {
            removeBlock(number);
            return REFUSED;
        }
        return number;
    }

    public boolean unblock(int k) {
        if (k < 0 || k >= MOST_BLOCKS || !contains(heldBlocks, k)) {
            return false;
        }
        removeBlock(k);
        return true;
    }

    public int jobs() {
        return heldJobs;
    }

    public int release(int id) {
        return holdsJob(id) ? releases[id] : NONE;
    }

    public int deadline(int id) {
        return holdsJob(id) ? deadlines[id] : NONE;
    }

    public int earliestEnd() {
        copyWindows();
        return leastEnd(heldJobs);
    }

    public int latestBegin() {
        for (int t = LAST_TIME; t > 0; t--) {
            copyWindows();
            delayReleases(t);
            if (fits(heldJobs)) {
                return t;
            }
        }
        // There always is a good plan, and none starts before 0.
        return 0;
    }

    public int earliestStart(int id) {
        if (!holdsJob(id)) {
            return NONE;
        }
        copyWindows();
        return pinEarliest(id);
    }

    public int latestStart(int id) {
        if (!holdsJob(id)) {
            return NONE;
        }
        copyWindows();
        for (int s = deadlines[id] - length; s >= releases[id]; s--) {
            if (fitsPinned(id, s)) {
                return s;
            }
        }
        return NONE;
    }

    public boolean open(int t) {
        // Compared this way round because t + length could wrap around.
        if (t < 0 || t > LAST_TIME - length) {
            return false;
        }
        return fitsBeside(t, t + length);
    }

    public int plannedStart(int id) {
        if (!holdsJob(id)) {
            return NONE;
        }
        copyWindows();
        // Each job stays pinned while the later ones are placed; that makes the plan the first one.
        for (int earlier = 0; earlier < id; earlier++) {
            if (holdsJob(earlier)) {
                pinEarliest(earlier);
            }
        }
        return pinEarliest(id);
    }

    private static int clamp(int value, int most) {
        if (value < 1) {
            return 1;
        }
        return value > most ? most : value;
    }

    private static boolean contains(int set, int number) {
        return (set >> number & 1) == 1;
    }

    private static int leastFree(int held) {
        int number = 0;
        while (number < SLOTS && contains(held, number)) {
            number++;
        }
        return number;
    }

    private boolean holdsJob(int id) {
        return id >= 0 && id < MOST_JOBS && contains(heldJobs, id);
    }

    private boolean isWindow(int r, int d) {
        // The bounds come first: only between them is d - r sure not to wrap around.
        return r >= 0 && r <= LAST_TIME && d >= 0 && d <= LAST_TIME && d - r >= length;
    }

    private void setWindow(int id, int r, int d) {
        releases[id] = r;
        deadlines[id] = d;
    }

    private void removeBlock(int number) {
        heldBlocks &= ~(1 << number);
        findFreeStarts();
    }

    private void findFreeStarts() {
        int next = NEVER;
        for (int t = LAST_TIME; t >= 0; t--) {
            if (isUnblocked(t)) {
                next = t;
            }
            freeStarts[t] = next;
        }
    }

    private boolean isUnblocked(int start) {
        for (int k = 0; k < MOST_BLOCKS; k++) {
            if (contains(heldBlocks, k) && blockBegins[k] < start + length && start < blockEnds[k]) {
                return false;
            }
        }
        return true;
    }

    private void copyWindows() {
        for (int id = 0; id < MOST_JOBS; id++) {
            trialReleases[id] = releases[id];
            trialDeadlines[id] = deadlines[id];
        }
    }

    private void delayReleases(int t) {
        for (int id = 0; id < MOST_JOBS; id++) {
            if (trialReleases[id] < t) {
                trialReleases[id] = t;
            }
        }
    }

    private int pinEarliest(int id) {
        for (int s = releases[id]; s <= deadlines[id] - length; s++) {
            if (fitsPinned(id, s)) {
                return s;
            }
        }
        return NONE;
    }

    private boolean fitsPinned(int id, int start) {
        trialReleases[id] = start;
        trialDeadlines[id] = start + length;
        return fits(heldJobs);
    }

    private boolean fitsBeside(int r, int d) {
        copyWindows();
        trialReleases[TRIED] = r;
        trialDeadlines[TRIED] = d;
        return fits(heldJobs | 1 << TRIED);
    }

    private boolean fits(int wanted) {
        return leastEnd(wanted) <= LAST_TIME;
    }

    // Ending a set of jobs sooner never hurts the job that comes next, so the least end of every
    // set is enough to know and the order within it can be forgotten.
    private int leastEnd(int wanted) {
        leastEnds[0] = 0;
        for (int set = 1; set < SETS; set++) {
            if ((set & ~wanted) != 0) {
                continue;
            }
            leastEnds[set] = NEVER;
            for (int last = 0; last < SLOTS; last++) {
                if (contains(set, last)) {
                    int end = endAfter(leastEnds[set & ~(1 << last)], last);
                    leastEnds[set] = end < leastEnds[set] ? end : leastEnds[set];
                }
            }
        }
        return leastEnds[wanted];
    }

    private int endAfter(int time, int job) {
        int from = time > trialReleases[job] ? time : trialReleases[job];
        if (from > LAST_TIME) {
            return NEVER;
        }
        int end = freeStarts[from] + length;
        return end <= trialDeadlines[job] ? end : NEVER;
    }
}
