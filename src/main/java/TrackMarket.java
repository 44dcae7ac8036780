/** Lets jobs with fixed spans of time onto a few like tracks, for the greatest worth. */
public final class TrackMarket {
    public static final int BAD = -1;
    public static final int FULL = -2;
    public static final int NONE = -1;

    private static final int MOST_JOBS = 8;
    private static final int ALL_SETS = 1 << MOST_JOBS;
    private static final int LAST_END = 16;
    private static final int MOST_WORTH = 20;
    private static final int MOST_TRACKS = 4;

    private final int[] starts = new int[MOST_JOBS];
    private final int[] ends = new int[MOST_JOBS];
    private final int[] worths = new int[MOST_JOBS];
    private int present;
    private int trackCount;

    public TrackMarket(int tracks) {
        present = 0;
        if (tracks < 0) {
            trackCount = 0;
        } else if (tracks > MOST_TRACKS) {
            trackCount = MOST_TRACKS;
        } else {
            trackCount = tracks;
        }
    }

    public int bring(int s, int e, int worth) {
        if (!isSpan(s, e) || !isWorth(worth)) {
            return BAD;
        }
        int j = leastFreeNumber();
        if (j == MOST_JOBS) {
            return FULL;
        }
        starts[j] = s;
        ends[j] = e;
        worths[j] = worth;
        present |= 1 << j;
        return j;
    }

    public boolean take(int j) {
        if (!isPresent(j)) {
            return false;
        }
        present &= ~(1 << j);
        return true;
    }

    public boolean revalue(int j, int worth) {
        if (!isPresent(j) || !isWorth(worth)) {
            return false;
        }
        worths[j] = worth;
        return true;
    }

    public boolean setTracks(int n) {
        if (n < 0 || n > MOST_TRACKS) {
            return false;
        }
        trackCount = n;
        return true;
    }

    public int tracks() {
        return trackCount;
    }

    public int jobs() {
        return present;
    }

    public int chosen() {
        return bestSet(0, 0, trackCount);
    }

    public int total() {
        return bestWorth(0, 0, trackCount);
    }

    public boolean fits(int set) {
        return (set & ~present) == 0 && mostAtOnce(set) <= trackCount;
    }

    public int tracksFor(int set) {
        return mostAtOnce(set & present);
    }

    public int price(int j) {
        if (!isPresent(j)) {
            return NONE;
        }
        int with = bestSet(1 << j, 0, trackCount);
        if (with == NONE) {
            return MOST_WORTH + 1;
        }
        // Neither set depends on the worth of j: every set that has j gains by it alike.
        int without = bestSet(0, 1 << j, trackCount);
        int drawWorth = worthOf(without) - worthOf(with) + worths[j];
        int least = hasLeastDifference(with, without) ? drawWorth : drawWorth + 1;
        if (least < 1) {
            return 1;
        }
        return least > MOST_WORTH ? MOST_WORTH + 1 : least;
    }

    public int totalWith(int must, int never) {
        return bestWorth(must & present, never, trackCount);
    }

    public int gain() {
        return bestWorth(0, 0, trackCount + 1) - bestWorth(0, 0, trackCount);
    }

    public int loss() {
        if (trackCount == 0) {
            return NONE;
        }
        return bestWorth(0, 0, trackCount) - bestWorth(0, 0, trackCount - 1);
    }

    public int busy(int t) {
        int set = chosen();
        return countAt(set, t);
    }

    private boolean isSpan(int s, int e) {
        return 0 <= s && s < e && e <= LAST_END;
    }

    private boolean isWorth(int worth) {
        return 1 <= worth && worth <= MOST_WORTH;
    }

    // The range is looked at first because a shift would take j modulo 32.
    private boolean isPresent(int j) {
        return 0 <= j && j < MOST_JOBS && (present & 1 << j) != 0;
    }

    private int leastFreeNumber() {
        for (int j = 0; j < MOST_JOBS; j++) {
            if ((present & 1 << j) == 0) {
                return j;
            }
        }
        return MOST_JOBS;
    }

    private int bestWorth(int must, int never, int trackLimit) {
        int best = bestSet(must, never, trackLimit);
        return best == NONE ? NONE : worthOf(best);
    }

    private int bestSet(int must, int never, int trackLimit) {
        int best = NONE;
        for (int set = 0; set < ALL_SETS; set++) {
            boolean allowed = (set & ~present) == 0 && (set & must) == must && (set & never) == 0;
            if (allowed && mostAtOnce(set) <= trackLimit && (best == NONE || goesBefore(set, best))) {
                best = set;
            }
        }
        return best;
    }

    private boolean goesBefore(int a, int b) {
        int worthA = worthOf(a);
        int worthB = worthOf(b);
        return worthA > worthB || worthA == worthB && hasLeastDifference(a, b);
    }

    private boolean hasLeastDifference(int a, int b) {
        int differing = a ^ b;
        int least = differing & -differing;
        return (a & least) != 0;
    }

    private int worthOf(int set) {
        int sum = 0;
        for (int j = 0; j < MOST_JOBS; j++) {
            if ((set & 1 << j) != 0) {
                sum += worths[j];
            }
        }
        return sum;
    }

    private int mostAtOnce(int set) {
        int most = 0;
        for (int t = 0; t < LAST_END; t++) {
            int count = countAt(set, t);
            if (count > most) {
                most = count;
            }
        }
        return most;
    }

    // A time outside 0 .. 15 lies in no job's span, so its count is 0 without a test of its own.
    private int countAt(int set, int t) {
        int count = 0;
        for (int j = 0; j < MOST_JOBS; j++) {
            if ((set & 1 << j) != 0 && starts[j] <= t && t < ends[j]) {
                count++;
            }
        }
        return count;
    }
}
