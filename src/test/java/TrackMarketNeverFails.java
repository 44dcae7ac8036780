import java.util.ArrayList;
import java.util.List;

/**
 * Rules 7 and 11 of LANGUAGE.md, and that each answer is one of those the document has: every method is called with
 * numbers from far below to far above in many states, none throws, all end, and the same calls always answer the same.
 */
public final class TrackMarketNeverFails {
    private static final int[] NUMBERS = {
        Integer.MIN_VALUE, Integer.MIN_VALUE + 1, Integer.MIN_VALUE + 8, -257, -256, -33, -32, -31, -17, -16, -9, -8,
        -7, -2, -1, 0, 1, 2, 3, 4, 5, 6, 7, 8, 9, 14, 15, 16, 17, 19, 20, 21, 22, 31, 32, 33, 40, 127, 128, 255, 256,
        257, 65536, Integer.MAX_VALUE - 8, Integer.MAX_VALUE - 1, Integer.MAX_VALUE};
    private static final int METHODS = 15;
    private static final int MOST_CALLS = 512;
    private static final int FAR_BEYOND = 5000;
    private static final long PATIENCE_MILLIS = 120_000;

    private static int right = 0;
    private static int wrong = 0;
    private static volatile String last = "";

    public static void main(String[] args) throws InterruptedException {
        Thread work = new Thread(TrackMarketNeverFails::all);
        work.setDaemon(true);
        work.start();
        work.join(PATIENCE_MILLIS);
        if (work.isAlive()) {
            System.out.println("does not end: " + last);
            System.exit(1);
        }
        System.out.println(right + " passed, " + wrong + " failed");
        if (wrong != 0 || right == 0) {
            System.exit(1);
        }
    }

    private static void all() {
        try {
            newObjects();
            eachMethodInEachState();
            bringOfAllNumbers();
            longRuns();
            sameCallsSameAnswers();
        } catch (RuntimeException | Error e) {
            wrong++;
            System.out.println(last + " threw " + e);
        }
    }

    private static void check(boolean holds, String what) {
        if (holds) {
            right++;
        } else {
            wrong++;
            System.out.println(what);
        }
    }

    // A fixed row of numbers in place of a random source, so that each run of the test is the same.
    private static long row = 20261116L;

    private static int upTo(int bound) {
        row = row * 6364136223846793005L + 1442695040888963407L;
        return (int) ((row >>> 33) % bound);
    }

    private static int someNumber() {
        return upTo(3) == 0 ? NUMBERS[upTo(NUMBERS.length)] : upTo(21);
    }

    /** Calls a method by its place in the document's face; a boolean answer counts 1 or 0. */
    private static int call(TrackMarket x, int method, int a, int b, int c) {
        last = "method " + method + " with " + a + ", " + b + ", " + c;
        return switch (method) {
            case 0 -> x.bring(a, b, c);
            case 1 -> x.take(a) ? 1 : 0;
            case 2 -> x.revalue(a, b) ? 1 : 0;
            case 3 -> x.setTracks(a) ? 1 : 0;
            case 4 -> x.tracks();
            case 5 -> x.jobs();
            case 6 -> x.chosen();
            case 7 -> x.total();
            case 8 -> x.fits(a) ? 1 : 0;
            case 9 -> x.tracksFor(a);
            case 10 -> x.price(a);
            case 11 -> x.totalWith(a, b);
            case 12 -> x.gain();
            case 13 -> x.loss();
            default -> x.busy(a);
        };
    }

    private static boolean isAnAnswer(int method, int answer) {
        return switch (method) {
            case 0 -> answer >= TrackMarket.FULL && answer <= 7;
            case 1, 2, 3, 8 -> answer == 0 || answer == 1;
            case 4, 14 -> answer >= 0 && answer <= 4;
            case 5, 6 -> answer >= 0 && answer <= 255;
            case 7, 12 -> answer >= 0 && answer <= 160;
            case 9 -> answer >= 0 && answer <= 8;
            case 10 -> answer == TrackMarket.NONE || answer >= 1 && answer <= 21;
            default -> answer >= TrackMarket.NONE && answer <= 160;
        };
    }

    private static void answers(TrackMarket x, int method, int a, int b, int c) {
        int answer = call(x, method, a, b, c);
        check(isAnAnswer(method, answer), last + " answered " + answer);
    }

    private static void newObjects() {
        for (int n : NUMBERS) {
            last = "new TrackMarket(" + n + ")";
            TrackMarket x = new TrackMarket(n);
            for (int method = 0; method < METHODS; method++) {
                answers(x, method, n, n, n);
            }
        }
    }

    /** Up to eight jobs, of which some numbers were taken again, on any number of tracks. */
    private static TrackMarket someState() {
        TrackMarket x = new TrackMarket(upTo(5));
        int jobs = upTo(10);
        for (int j = 0; j < jobs; j++) {
            int s = upTo(16);
            int e = s + 1 + upTo(16 - s);
            int worth = 1 + upTo(20);
            call(x, 0, s, e, worth);
        }
        int taken = upTo(4);
        for (int i = 0; i < taken; i++) {
            int j = upTo(8);
            call(x, 1, j, 0, 0);
        }
        return x;
    }

    private static void eachMethodInEachState() {
        for (int state = 0; state < 40; state++) {
            TrackMarket x = someState();
            for (int a : NUMBERS) {
                int b = someNumber();
                for (int method = 8; method < METHODS; method++) {
                    answers(x, method, a, b, 0);
                }
            }
            for (int a : NUMBERS) {
                int b = someNumber();
                int c = someNumber();
                answers(x, upTo(4), a, b, c);
            }
        }
    }

    private static void bringOfAllNumbers() {
        for (int s : NUMBERS) {
            for (int e : NUMBERS) {
                for (int worth : NUMBERS) {
                    answers(new TrackMarket(1), 0, s, e, worth);
                }
            }
        }
    }

    /** What a call beyond the 512th answers is free, but it may not throw either. */
    private static void longRuns() {
        for (int run = 0; run < 4; run++) {
            TrackMarket x = new TrackMarket(someNumber());
            for (int i = 1; i <= FAR_BEYOND; i++) {
                int method = upTo(METHODS);
                int answer = call(x, method, someNumber(), someNumber(), someNumber());
                if (i <= MOST_CALLS) {
                    check(isAnAnswer(method, answer), "call " + i + ", " + last + " answered " + answer);
                }
            }
        }
    }

    private static void sameCallsSameAnswers() {
        for (int run = 0; run < 20; run++) {
            long start = row;
            List<Integer> alone = answersOfARun(null);
            long end = row;
            row = start;
            List<Integer> besideOthers = answersOfARun(new TrackMarket(run % 5));
            check(alone.equals(besideOthers) && row == end, "run " + run + ": " + alone + " and then " + besideOthers);
        }
    }

    /** Between the calls another object, if there is one, gets calls of its own, which must not show here. */
    private static List<Integer> answersOfARun(TrackMarket other) {
        List<Integer> answers = new ArrayList<>();
        TrackMarket x = new TrackMarket(upTo(5));
        for (int i = 0; i < MOST_CALLS; i++) {
            int a = someNumber();
            int b = someNumber();
            int c = someNumber();
            answers.add(call(x, upTo(METHODS), a, b, c));
            if (other != null) {
                call(other, i % METHODS, i % 9, i % 9 + i % 5, i % 23);
            }
        }
        return answers;
    }
}
