import java.util.ArrayList;
import java.util.List;
import java.util.TreeSet;

/**
 * Long runs of made-up calls, each answer held against a model that follows the document's words by another
 * way than the class: lists of jobs, every set compared with every other, and each price tried out.
 */
public final class TrackMarketModel {
    private static final int RUNS = 60;
    private static final int CALLS = 512;

    private static final class Job {
        int s;
        int e;
        int worth;
    }

    private final Job[] jobs = new Job[8];
    private int tracks;

    private TrackMarketModel(int tracks) {
        this.tracks = tracks < 0 ? 0 : Math.min(tracks, 4);
    }

    private int bring(int s, int e, int worth) {
        if (s < 0 || e <= s || e > 16 || worth < 1 || worth > 20) {
            return -1;
        }
        for (int j = 0; j < 8; j++) {
            if (jobs[j] == null) {
                jobs[j] = new Job();
                jobs[j].s = s;
                jobs[j].e = e;
                jobs[j].worth = worth;
                return j;
            }
        }
        return -2;
    }

    private boolean has(int j) {
        return j >= 0 && j <= 7 && jobs[j] != null;
    }

    private int take(int j) {
        if (!has(j)) {
            return 0;
        }
        jobs[j] = null;
        return 1;
    }

    private int revalue(int j, int worth) {
        if (!has(j) || worth < 1 || worth > 20) {
            return 0;
        }
        jobs[j].worth = worth;
        return 1;
    }

    private int setTracks(int n) {
        if (n < 0 || n > 4) {
            return 0;
        }
        tracks = n;
        return 1;
    }

    private TreeSet<Integer> present() {
        TreeSet<Integer> numbers = new TreeSet<>();
        for (int j = 0; j < 8; j++) {
            if (jobs[j] != null) {
                numbers.add(j);
            }
        }
        return numbers;
    }

    private static int bits(Iterable<Integer> numbers) {
        int set = 0;
        for (int j : numbers) {
            set += 1 << j;
        }
        return set;
    }

    private static boolean bit(int set, int j) {
        return (set >>> j) % 2 != 0;
    }

    /** All sets of present jobs, built up one job after the other. */
    private List<TreeSet<Integer>> allSets() {
        List<TreeSet<Integer>> sets = new ArrayList<>();
        sets.add(new TreeSet<>());
        for (int j : present()) {
            int before = sets.size();
            for (int i = 0; i < before; i++) {
                TreeSet<Integer> larger = new TreeSet<>(sets.get(i));
                larger.add(j);
                sets.add(larger);
            }
        }
        return sets;
    }

    private int at(Iterable<Integer> set, int t) {
        int count = 0;
        for (int j : set) {
            if (jobs[j].s <= t && t < jobs[j].e) {
                count++;
            }
        }
        return count;
    }

    private boolean fitsOn(Iterable<Integer> set, int n) {
        for (int t = 0; t <= 15; t++) {
            if (at(set, t) > n) {
                return false;
            }
        }
        return true;
    }

    private int worth(Iterable<Integer> set) {
        int sum = 0;
        for (int j : set) {
            sum += jobs[j].worth;
        }
        return sum;
    }

    private TreeSet<Integer> choose(int n) {
        TreeSet<Integer> best = new TreeSet<>();
        for (TreeSet<Integer> set : allSets()) {
            if (fitsOn(set, n) && before(set, best)) {
                best = set;
            }
        }
        return best;
    }

    private boolean before(TreeSet<Integer> a, TreeSet<Integer> b) {
        if (worth(a) != worth(b)) {
            return worth(a) > worth(b);
        }
        for (int j = 0; j < 8; j++) {
            if (a.contains(j) != b.contains(j)) {
                return a.contains(j);
            }
        }
        return false;
    }

    private int fits(int set) {
        List<Integer> numbers = new ArrayList<>();
        for (int j = 0; j < 32; j++) {
            if (bit(set, j)) {
                if (!has(j)) {
                    return 0;
                }
                numbers.add(j);
            }
        }
        return fitsOn(numbers, tracks) ? 1 : 0;
    }

    private int tracksFor(int set) {
        TreeSet<Integer> numbers = present();
        numbers.removeIf(j -> !bit(set, j));
        int n = 0;
        while (!fitsOn(numbers, n)) {
            n++;
        }
        return n;
    }

    private int price(int j) {
        if (!has(j)) {
            return -1;
        }
        int kept = jobs[j].worth;
        int least = 21;
        for (int w = 20; w >= 1; w--) {
            jobs[j].worth = w;
            if (choose(tracks).contains(j)) {
                least = w;
            }
        }
        jobs[j].worth = kept;
        return least;
    }

    private int totalWith(int must, int never) {
        int most = -1;
        for (TreeSet<Integer> set : allSets()) {
            boolean allowed = fitsOn(set, tracks);
            for (int j : present()) {
                allowed &= !(bit(must, j) && !set.contains(j)) && !(bit(never, j) && set.contains(j));
            }
            if (allowed) {
                most = Math.max(most, worth(set));
            }
        }
        return most;
    }

    private int gain() {
        return worth(choose(tracks + 1)) - worth(choose(tracks));
    }

    private int loss() {
        return tracks == 0 ? -1 : worth(choose(tracks)) - worth(choose(tracks - 1));
    }

    private int busy(int t) {
        return t < 0 || t > 15 ? 0 : at(choose(tracks), t);
    }

    // A fixed row of numbers in place of a random source, so that each run of the test is the same.
    private static long row = 20261115L;
    private static int right = 0;
    private static int wrong = 0;

    private static int upTo(int bound) {
        row = row * 6364136223846793005L + 1442695040888963407L;
        return (int) ((row >>> 33) % bound);
    }

    private static int someBits() {
        int bits = upTo(256);
        int kind = upTo(6);
        return kind == 0 ? bits | 1 << upTo(32) : kind == 1 ? ~bits : kind == 2 ? bits & upTo(256) : bits;
    }

    private static int someJob() {
        return upTo(20) == 0 ? upTo(80) - 40 : upTo(8);
    }

    private static void due(int run, String call, int got, int want) {
        if (got == want) {
            right++;
        } else {
            wrong++;
            System.out.println("run " + run + ": " + call + " answered " + got + ", due is " + want);
        }
    }

    public static void main(String[] args) {
        for (int run = 0; run < RUNS; run++) {
            int n = upTo(8) - 2;
            TrackMarket x = new TrackMarket(n);
            TrackMarketModel m = new TrackMarketModel(n);
            // A narrow span of worths makes sets of the same worth common.
            int worths = run % 3 == 0 ? 20 : run % 3 == 1 ? 3 : 7;
            int bringsAmong = run % 2 == 0 ? 3 : 8;
            for (int i = 0; i < CALLS; i++) {
                if (upTo(bringsAmong) == 0) {
                    bring(run, x, m, worths);
                } else if (upTo(4) == 0) {
                    change(run, x, m, worths);
                } else {
                    ask(run, x, m);
                }
            }
        }
        System.out.println(right + " passed, " + wrong + " failed");
        if (wrong != 0) {
            System.exit(1);
        }
    }

    private static void bring(int run, TrackMarket x, TrackMarketModel m, int worths) {
        boolean odd = upTo(10) == 0;
        int s = odd ? upTo(20) - 2 : upTo(16);
        int e = odd ? upTo(20) - 1 : s + 1 + upTo(16 - s);
        int w = odd ? upTo(24) - 1 : 1 + upTo(worths);
        due(run, "bring(" + s + ", " + e + ", " + w + ")", x.bring(s, e, w), m.bring(s, e, w));
    }

    private static void change(int run, TrackMarket x, TrackMarketModel m, int worths) {
        int j = someJob();
        int w = upTo(10) == 0 ? upTo(26) - 3 : 1 + upTo(worths);
        int n = upTo(7) - 1;
        switch (upTo(3)) {
            case 0 -> due(run, "take(" + j + ")", x.take(j) ? 1 : 0, m.take(j));
            case 1 -> due(run, "revalue(" + j + ", " + w + ")", x.revalue(j, w) ? 1 : 0, m.revalue(j, w));
            default -> due(run, "setTracks(" + n + ")", x.setTracks(n) ? 1 : 0, m.setTracks(n));
        }
    }

    private static void ask(int run, TrackMarket x, TrackMarketModel m) {
        int j = someJob();
        int t = upTo(20) - 2;
        int a = someBits();
        // Few bits in must, and seldom the same ones in never, so that most calls have an answer but NONE.
        int must = someBits() & someBits();
        int never = someBits() & (upTo(4) == 0 ? -1 : ~must);
        switch (upTo(11)) {
            case 0 -> due(run, "tracks()", x.tracks(), m.tracks);
            case 1 -> due(run, "jobs()", x.jobs(), bits(m.present()));
            case 2 -> due(run, "chosen()", x.chosen(), bits(m.choose(m.tracks)));
            case 3 -> due(run, "total()", x.total(), m.worth(m.choose(m.tracks)));
            case 4 -> due(run, "fits(" + a + ")", x.fits(a) ? 1 : 0, m.fits(a));
            case 5 -> due(run, "tracksFor(" + a + ")", x.tracksFor(a), m.tracksFor(a));
            case 6 -> due(run, "price(" + j + ")", x.price(j), m.price(j));
            case 7 -> due(run, "totalWith(" + must + ", " + never + ")", x.totalWith(must, never),
                m.totalWith(must, never));
            case 8 -> due(run, "gain()", x.gain(), m.gain());
            case 9 -> due(run, "loss()", x.loss(), m.loss());
            default -> due(run, "busy(" + t + ")", x.busy(t), m.busy(t));
        }
    }
}
