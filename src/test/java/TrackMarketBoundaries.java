import java.util.Arrays;
import java.util.HashMap;
import java.util.Map;

/**
 * One method for each sentence of the document that names a boundary case, called with the sentence's own words:
 * the last value inside, the first value outside, values far outside, and, after a refused call, that nothing has
 * changed. A boolean answer counts 1 or 0.
 */
public final class TrackMarketBoundaries {
    private static final int LOW = Integer.MIN_VALUE;
    private static final int HIGH = Integer.MAX_VALUE;
    private static final int BAD = -1;
    private static final int FULL = -2;
    private static final int NONE = -1;
    private static final int TRUE = 1;
    private static final int FALSE = 0;

    /** Numbers that no job can hold; many of them would name a job if taken modulo 8, 32 or 256. */
    private static final int[] NO_NUMBERS = {
        -1, 8, 9, 15, 16, 31, 32, 33, 35, 39, 40, 63, 64, 255, 256, 257,
        -2, -7, -8, -9, -31, -32, -33, -256, LOW, LOW + 1, LOW + 7, HIGH - 7, HIGH - 1, HIGH};

    private interface Making {
        TrackMarket make();
    }

    private interface Call {
        int answer(TrackMarket x);
    }

    private static String sentence = "";
    private static int checksBefore = 0;
    private static int right = 0;
    private static int wrong = 0;
    private static final Map<Making, String> STATES = new HashMap<>();

    public static void main(String[] args) {
        aNewObject();
        theChanges();
        theChosenSet();
        theQuestionsAboutSets();
        theQuestionsAboutWorth();
        theLimits();
        sentence("end");
        System.out.println(right + " passed, " + wrong + " failed");
        if (wrong != 0) {
            System.exit(1);
        }
    }

    private static void aNewObject() {
        sentence("1: No jobs");
        newHasNoJobs();
        sentence("1: tracks: clamped to 0 .. 4");
        newClampsTracks();
    }

    private static void theChanges() {
        sentence("2: BAD unless 0 <= s");
        bringStart();
        sentence("2: BAD unless s < e");
        bringEndAfterStart();
        sentence("2: BAD unless e <= 16");
        bringEnd();
        sentence("2: BAD unless worth is 1 .. 20");
        bringWorth();
        sentence("2: BAD unless 0 <= s < e <= 16 and worth is 1 .. 20");
        bringEverySpanAndWorth();
        sentence("2: FULL when eight jobs are there");
        bringWhenFull();
        sentence("2: the least number that no job holds, which it gets");
        bringIntoEveryGap();
        sentence("3: false, changing nothing, when there is no job j");
        takeOfNoJob();
        sentence("3: Takes job j away and answers true");
        takeOfEachJob();
        sentence("4: false, changing nothing, when there is no job j");
        revalueOfNoJob();
        sentence("4: false, changing nothing, when worth is not 1 .. 20");
        revalueToNoWorth();
        sentence("4: Gives job j another worth and answers true");
        revalueOfEachJob();
        sentence("5: false, changing nothing, when n is not 0 .. 4");
        setTracksOutside();
        sentence("5: Sets the number of tracks and answers true");
        setTracksInside();
    }

    private static void theChosenSet() {
        sentence("6: The number of tracks");
        tracksLeastAndMost();
        sentence("7: The jobs: bit j for job j");
        jobsNoneToEight();
        sentence("8: The chosen set, with no jobs");
        chosenOfNoJobs();
        sentence("8: The chosen set, with no tracks");
        chosenOnNoTracks();
        sentence("8: The chosen set, with eight jobs");
        chosenOfEightJobs();
        sentence("9: The total worth, with no jobs, with no tracks, with eight jobs");
        totalLeastAndMost();
        sentence("Terms: it takes a track from s up to e");
        spansAreHalfOpen();
        sentence("Terms: at every time t (0 .. 15)");
        firstAndLastTime();
        sentence("Terms: at most as many jobs of the set as there are tracks");
        asManyAsThereAreTracks();
        sentence("Terms: of several with that worth, the least job number on which they differ");
        equalWorths();
        sentence("Terms: of several with that worth: not by a worth that differs by one");
        almostEqualWorths();
    }

    private static void theQuestionsAboutSets() {
        sentence("10: the jobs whose bits (0 .. 31) are set in set are all there");
        fitsNeedsEveryBitThere();
        sentence("10: and the set fits");
        fitsOnTheLastTrack();
        sentence("11: The least number of tracks, from none to eight");
        tracksForNoneToEight();
        sentence("11: that are there fits (other bits do not matter)");
        tracksForOtherBits();
        sentence("16: have s <= t < e");
        busyAtTheEndsOfASpan();
        sentence("16: 0 when t is not 0 .. 15");
        busyOutsideTime();
        sentence("16: How many jobs of the chosen set, with none and with most");
        busyNoneAndMost();
    }

    private static void theQuestionsAboutWorth() {
        sentence("12: The least worth, from 1 to 20");
        priceFromOneToTwenty();
        sentence("12: with which job j would be chosen, all else as it is");
        priceByTrial();
        sentence("12: 21 when there is none");
        priceOutOfReach();
        sentence("12: NONE when there is no job j");
        priceOfNoJob();
        sentence("12: Nothing changes");
        priceChangesNothing();
        sentence("13: all the present jobs whose bits are set in must and none whose bits are set in never");
        totalWithEachJob();
        sentence("13: NONE when there is none");
        totalWithNone();
        sentence("13: (bits of numbers that no job holds do not matter)");
        totalWithOtherBits();
        sentence("14: with one track more (five included)");
        gainUpToFive();
        sentence("15: with one track fewer");
        lossDownToNone();
        sentence("15: NONE when there are none");
        lossOnNoTracks();
    }

    private static void theLimits() {
        sentence("17: BAD is tested before FULL");
        badBeforeFull();
        sentence("What it is: at most 512 calls after it has been made");
        theLastCall();
        sentence("Not promised: nothing beyond the state changes described");
        questionsChangeNothing();
    }

    // ---- what a test is made of

    /** A sentence without a single check would be a promise that nothing watches. */
    private static void sentence(String words) {
        if (!sentence.isEmpty() && right + wrong == checksBefore) {
            wrong++;
            System.out.println(sentence + ": nothing was checked");
        }
        sentence = words;
        checksBefore = right + wrong;
    }

    private static void due(String what, int got, int want) {
        due(what, Integer.toString(got), Integer.toString(want));
    }

    private static void due(String what, boolean got, int want) {
        due(what, bit(got), want);
    }

    private static void due(String what, String got, String want) {
        if (got.equals(want)) {
            right++;
        } else {
            wrong++;
            System.out.println(sentence + ": " + what + " answered " + got + ", due is " + want);
        }
    }

    private static int bit(boolean answer) {
        return answer ? TRUE : FALSE;
    }

    /** The call gives the answer, and the object is then as one on which it was not made. */
    private static void changesNothing(String what, Making making, Call call, int want) {
        due(what, call.answer(making.make()), want);
        String untouched = STATES.computeIfAbsent(making, m -> state(m, x -> 0));
        due("all that can be seen after " + what, state(making, call), untouched);
    }

    /**
     * All that can be seen of an object after the call: its answers as it is, and then the spans. A job's span shows
     * when it is chosen, and with four tracks the last four jobs left are; so jobs go from below, and from above on
     * a second object, as each object has 512 calls only.
     */
    private static String state(Making making, Call call) {
        TrackMarket up = making.make();
        call.answer(up);
        TrackMarket down = making.make();
        call.answer(down);
        return answers(up) + " next " + up.bring(7, 9, 11) + emptied(up, 0, 1) + emptied(down, 7, -1);
    }

    private static String answers(TrackMarket x) {
        StringBuilder seen = new StringBuilder();
        seen.append("tracks ").append(x.tracks()).append(" jobs ").append(x.jobs());
        seen.append(" chosen ").append(x.chosen()).append(" total ").append(x.total());
        seen.append(" gain ").append(x.gain()).append(" loss ").append(x.loss());
        for (int j = 0; j < 8; j++) {
            seen.append(" job ").append(j).append(": ").append(x.price(j));
            seen.append(' ').append(x.totalWith(1 << j, 0)).append(' ').append(x.totalWith(1 << j, ~(1 << j)));
            seen.append(' ').append(x.fits(1 << j)).append(' ').append(x.tracksFor(255 >> j));
        }
        return seen + " busy" + busyTimes(x);
    }

    private static String busyTimes(TrackMarket x) {
        StringBuilder seen = new StringBuilder();
        for (int t = 0; t < 16; t++) {
            seen.append(' ').append(x.busy(t));
        }
        return seen.toString();
    }

    private static String emptied(TrackMarket x, int first, int step) {
        StringBuilder seen = new StringBuilder();
        x.setTracks(4);
        for (int j = first; j >= 0 && j < 8; j += step) {
            seen.append(" with ").append(x.jobs()).append(" worth ").append(x.total()).append(busyTimes(x));
            x.take(j);
        }
        return seen.toString();
    }

    // ---- the objects that the tests start from

    private static final Making EMPTY = () -> new TrackMarket(2);

    private static final Making BARE = () -> new TrackMarket(0);

    /** Jobs 0, 1, 3 and 6 on two tracks; 2, 4, 5 and 7 have been there and were taken. */
    private static final Making SOME = () -> {
        TrackMarket x = new TrackMarket(2);
        int[][] jobs = {{0, 6, 7}, {4, 9, 5}, {0, 16, 20}, {5, 16, 9}, {1, 2, 20}, {0, 4, 3}, {0, 1, 2}, {3, 5, 8}};
        for (int[] job : jobs) {
            x.bring(job[0], job[1], job[2]);
        }
        x.take(2);
        x.take(4);
        x.take(5);
        x.take(7);
        return x;
    };

    /** Eight jobs on three tracks, more than there is room for. */
    private static final Making EIGHT = () -> {
        TrackMarket x = new TrackMarket(3);
        int[][] jobs = {{0, 16, 9}, {0, 5, 4}, {3, 8, 6}, {4, 9, 7}, {4, 5, 1}, {8, 16, 20}, {10, 12, 3}, {11, 16, 2}};
        for (int[] job : jobs) {
            x.bring(job[0], job[1], job[2]);
        }
        return x;
    };

    private static final Making EIGHT_ON_NONE = () -> {
        TrackMarket x = EIGHT.make();
        x.setTracks(0);
        return x;
    };

    private static final Making[] ALL = {EMPTY, BARE, SOME, EIGHT, EIGHT_ON_NONE};

    /** Jobs 0 .. n-1, all over the same span with the same worth. */
    private static TrackMarket alike(int tracks, int n, int worth) {
        TrackMarket x = new TrackMarket(tracks);
        for (int j = 0; j < n; j++) {
            x.bring(2, 5, worth);
        }
        return x;
    }

    /** Eight jobs one after the other, which one track can take. */
    private static TrackMarket inARow(int worth) {
        TrackMarket x = new TrackMarket(1);
        for (int j = 0; j < 8; j++) {
            x.bring(2 * j, 2 * j + 2, worth);
        }
        return x;
    }

    /** Two jobs over the same span on one track. */
    private static TrackMarket rivals(int worth0, int worth1) {
        TrackMarket x = new TrackMarket(1);
        x.bring(0, 16, worth0);
        x.bring(0, 16, worth1);
        return x;
    }

    // ---- promise 1

    private static void newHasNoJobs() {
        for (int given : new int[] {LOW, -1, 0, 1, 4, 5, HIGH}) {
            TrackMarket x = new TrackMarket(given);
            due("jobs of new " + given, x.jobs(), 0);
            for (int j = 0; j < 8; j++) {
                due("price(" + j + ") of new " + given, x.price(j), NONE);
                due("fits of bit " + j + " of new " + given, x.fits(1 << j), FALSE);
                due("take(" + j + ") of new " + given, x.take(j), FALSE);
            }
            due("first number of new " + given, x.bring(0, 16, 1), 0);
        }
    }

    private static void newClampsTracks() {
        int[] given = {LOW, LOW + 1, -256, -252, -5, -2, -1, 0, 1, 2, 3, 4, 5, 6, 8, 256, 257, HIGH - 1, HIGH};
        int[] kept = {0, 0, 0, 0, 0, 0, 0, 0, 1, 2, 3, 4, 4, 4, 4, 4, 4, 4, 4};
        for (int i = 0; i < given.length; i++) {
            TrackMarket x = alike(given[i], 8, 3);
            due("tracks of new " + given[i], x.tracks(), kept[i]);
            due("total of eight like jobs on new " + given[i], x.total(), 3 * kept[i]);
            due("fits of as many jobs on new " + given[i], x.fits((1 << kept[i]) - 1), TRUE);
            due("fits of one more on new " + given[i], x.fits((1 << kept[i] + 1) - 1), FALSE);
        }
    }

    // ---- promise 2

    private static void badBring(int s, int e, int worth) {
        String what = "bring(" + s + ", " + e + ", " + worth + ")";
        for (Making making : new Making[] {EMPTY, SOME, EIGHT}) {
            changesNothing(what, making, x -> x.bring(s, e, worth), BAD);
        }
    }

    private static void goodBring(int s, int e, int worth) {
        String what = "bring(" + s + ", " + e + ", " + worth + ")";
        TrackMarket x = new TrackMarket(1);
        due(what, x.bring(s, e, worth), 0);
        due("jobs after " + what, x.jobs(), 1);
        due("total after " + what, x.total(), worth);
        for (int t = -1; t <= 16; t++) {
            due("busy(" + t + ") after " + what, x.busy(t), bit(s <= t && t < e));
        }
    }

    private static void bringStart() {
        goodBring(0, 1, 5);
        goodBring(0, 16, 5);
        badBring(-1, 1, 5);
        badBring(-1, 16, 5);
        badBring(-1, 0, 5);
        badBring(-2, -1, 5);
        badBring(LOW, 5, 5);
        badBring(LOW, LOW + 1, 5);
    }

    private static void bringEndAfterStart() {
        for (int s = 0; s < 16; s++) {
            goodBring(s, s + 1, 5);
        }
        badBring(0, 0, 5);
        badBring(1, 0, 5);
        badBring(7, 7, 5);
        badBring(8, 7, 5);
        badBring(15, 15, 5);
        badBring(16, 15, 5);
        badBring(16, 16, 5);
        badBring(16, 0, 5);
        badBring(HIGH, 5, 5);
        badBring(5, LOW, 5);
        badBring(0, LOW, 5);
        // Here the difference e - s wraps around to 1 and to small numbers.
        badBring(HIGH, LOW, 5);
        badBring(HIGH - 2, LOW + 3, 5);
    }

    private static void bringEnd() {
        goodBring(15, 16, 5);
        goodBring(14, 16, 5);
        badBring(0, 17, 5);
        badBring(15, 17, 5);
        badBring(16, 17, 5);
        badBring(17, 18, 5);
        badBring(5, 256, 5);
        badBring(5, HIGH, 5);
        badBring(HIGH - 1, HIGH, 5);
        badBring(LOW, HIGH, 5);
    }

    private static void bringWorth() {
        goodBring(3, 9, 1);
        goodBring(3, 9, 20);
        for (int worth : new int[] {0, -1, -20, 21, 22, 257, LOW, LOW + 1, HIGH}) {
            badBring(3, 9, worth);
        }
    }

    private static void bringEverySpanAndWorth() {
        int[] times = {LOW, -2, -1, 0, 1, 2, 7, 8, 14, 15, 16, 17, 18, HIGH};
        int[] worths = {LOW, -1, 0, 1, 2, 19, 20, 21, HIGH};
        for (int s : times) {
            for (int e : times) {
                for (int worth : worths) {
                    boolean good = s >= 0 && e > s && e <= 16 && worth >= 1 && worth <= 20;
                    TrackMarket x = new TrackMarket(1);
                    String what = "bring(" + s + ", " + e + ", " + worth + ")";
                    due(what, x.bring(s, e, worth), good ? 0 : BAD);
                    due("jobs after " + what, x.jobs(), good ? 1 : 0);
                    due("total after " + what, x.total(), good ? worth : 0);
                }
            }
        }
    }

    private static void bringWhenFull() {
        TrackMarket x = new TrackMarket(4);
        for (int j = 0; j < 8; j++) {
            due("bring with " + j + " jobs there", x.bring(0, 16, 20), j);
        }
        due("bring with eight jobs there", x.bring(0, 16, 20), FULL);
        due("bring again", x.bring(0, 1, 1), FULL);
        due("take", x.take(7), TRUE);
        due("bring with seven jobs there again", x.bring(0, 16, 20), 7);
        due("bring with eight jobs there again", x.bring(0, 16, 20), FULL);
        changesNothing("bring(0, 16, 20)", EIGHT, y -> y.bring(0, 16, 20), FULL);
        changesNothing("bring(0, 1, 1)", EIGHT, y -> y.bring(0, 1, 1), FULL);
        changesNothing("bring(15, 16, 1)", EIGHT, y -> y.bring(15, 16, 1), FULL);
        changesNothing("bring(0, 16, 20)", EIGHT_ON_NONE, y -> y.bring(0, 16, 20), FULL);
    }

    private static void bringIntoEveryGap() {
        for (int gaps = 1; gaps < 256; gaps++) {
            bringIntoGaps(gaps, 0);
            bringIntoGaps(gaps, 1);
        }
    }

    /** The new job takes the first or the second half of the taken one's span, so one end of its span is new. */
    private static void bringIntoGaps(int gaps, int half) {
        TrackMarket x = inARow(3);
        for (int j = 0; j < 8; j++) {
            if ((gaps & 1 << j) != 0) {
                x.take(j);
            }
        }
        int least = Integer.numberOfTrailingZeros(gaps);
        int start = 2 * least + half;
        due("bring with gaps " + gaps, x.bring(start, start + 1, 17), least);
        due("jobs with gaps " + gaps, x.jobs(), 255 & ~gaps | 1 << least);
        due("worth of the new number", x.totalWith(1 << least, ~(1 << least)), 17);
        due("time of the new number", x.busy(start), 1);
        due("time of the taken job alone", x.busy(2 * least + 1 - half), 0);
    }

    // ---- promises 3, 4 and 5

    private static int[] numbersWithoutJob(Making making) {
        TrackMarket x = making.make();
        int[] found = new int[NO_NUMBERS.length + 8];
        int count = 0;
        for (int j = 0; j < 8; j++) {
            if ((x.jobs() & 1 << j) == 0) {
                found[count++] = j;
            }
        }
        for (int j : NO_NUMBERS) {
            found[count++] = j;
        }
        return Arrays.copyOf(found, count);
    }

    private static void takeOfNoJob() {
        for (Making making : new Making[] {EMPTY, SOME, EIGHT}) {
            for (int j : numbersWithoutJob(making)) {
                changesNothing("take(" + j + ")", making, x -> bit(x.take(j)), FALSE);
            }
        }
    }

    private static void takeOfEachJob() {
        for (int j = 0; j < 8; j++) {
            TrackMarket x = inARow(5);
            due("take(" + j + ")", x.take(j), TRUE);
            due("jobs after it", x.jobs(), 255 & ~(1 << j));
            due("chosen after it", x.chosen(), 255 & ~(1 << j));
            due("total after it", x.total(), 35);
            due("price after it", x.price(j), NONE);
            due("take(" + j + ") again", x.take(j), FALSE);
            due("jobs after both", x.jobs(), 255 & ~(1 << j));
            due("total after both", x.total(), 35);
        }
        TrackMarket all = inARow(5);
        for (int j = 0; j < 8; j++) {
            due("take of each in turn", all.take(j), TRUE);
        }
        due("jobs after all are taken", all.jobs(), 0);
        due("total after all are taken", all.total(), 0);
    }

    private static void revalueOfNoJob() {
        for (Making making : new Making[] {EMPTY, SOME, EIGHT}) {
            for (int j : numbersWithoutJob(making)) {
                changesNothing("revalue(" + j + ", 20)", making, x -> bit(x.revalue(j, 20)), FALSE);
            }
            changesNothing("revalue(8, 1)", making, x -> bit(x.revalue(8, 1)), FALSE);
            changesNothing("revalue(-1, 21)", making, x -> bit(x.revalue(-1, 21)), FALSE);
            changesNothing("revalue(8, 0)", making, x -> bit(x.revalue(8, 0)), FALSE);
            changesNothing("revalue of the least ints", making, x -> bit(x.revalue(LOW, LOW)), FALSE);
            changesNothing("revalue of the greatest ints", making, x -> bit(x.revalue(HIGH, HIGH)), FALSE);
        }
    }

    private static void revalueToNoWorth() {
        int[] worths = {0, 21, -1, -20, 22, 40, 257, LOW, LOW + 1, HIGH - 1, HIGH};
        for (int worth : worths) {
            changesNothing("revalue(0, " + worth + ")", SOME, x -> bit(x.revalue(0, worth)), FALSE);
            changesNothing("revalue(6, " + worth + ")", SOME, x -> bit(x.revalue(6, worth)), FALSE);
            changesNothing("revalue(7, " + worth + ")", EIGHT, x -> bit(x.revalue(7, worth)), FALSE);
        }
    }

    private static void revalueOfEachJob() {
        for (int j = 0; j < 8; j++) {
            for (int worth : new int[] {1, 2, 5, 19, 20}) {
                TrackMarket x = inARow(5);
                due("revalue(" + j + ", " + worth + ")", x.revalue(j, worth), TRUE);
                due("total after it", x.total(), 35 + worth);
                due("its worth", x.totalWith(1 << j, ~(1 << j)), worth);
                due("jobs after it", x.jobs(), 255);
                due("tracks after it", x.tracks(), 1);
                due("times after it", busyTimes(x), " 1".repeat(16));
            }
        }
    }

    private static void setTracksOutside() {
        int[] outside = {-1, 5, -2, -4, -5, 6, 8, 32, 36, 256, 257, 260, LOW, LOW + 1, LOW + 4, HIGH - 1, HIGH};
        for (Making making : ALL) {
            for (int n : outside) {
                changesNothing("setTracks(" + n + ")", making, x -> bit(x.setTracks(n)), FALSE);
            }
        }
    }

    private static void setTracksInside() {
        for (int from = 0; from <= 4; from++) {
            for (int n = 0; n <= 4; n++) {
                TrackMarket x = alike(from, 8, 7);
                due("setTracks(" + n + ") from " + from, x.setTracks(n), TRUE);
                due("tracks after it", x.tracks(), n);
                due("jobs after it", x.jobs(), 255);
                due("chosen after it", x.chosen(), (1 << n) - 1);
                due("total after it", x.total(), 7 * n);
            }
        }
    }

    // ---- promises 6 to 9 and the terms

    private static void tracksLeastAndMost() {
        for (int n = 0; n <= 4; n++) {
            TrackMarket x = new TrackMarket(n);
            due("tracks with no jobs", x.tracks(), n);
            due("tracks with eight jobs", alike(n, 8, 1).tracks(), n);
            due("tracks with one job", alike(n, 1, 1).tracks(), n);
        }
    }

    private static void jobsNoneToEight() {
        for (int tracks : new int[] {0, 1, 4}) {
            TrackMarket x = new TrackMarket(tracks);
            due("no jobs", x.jobs(), 0);
            for (int j = 0; j < 8; j++) {
                x.bring(0, 16, 1);
                due("jobs after " + (j + 1), x.jobs(), (2 << j) - 1);
            }
            for (int j = 7; j >= 0; j--) {
                x.take(j);
                due("jobs with " + j + " left", x.jobs(), (1 << j) - 1);
            }
        }
    }

    private static void chosenOfNoJobs() {
        for (int tracks = 0; tracks <= 4; tracks++) {
            due("chosen of no jobs on " + tracks, new TrackMarket(tracks).chosen(), 0);
            TrackMarket x = alike(tracks, 1, 20);
            x.take(0);
            due("chosen with the only job taken, on " + tracks, x.chosen(), 0);
        }
    }

    private static void chosenOnNoTracks() {
        for (int n = 1; n <= 8; n++) {
            due("chosen of " + n + " on no tracks", alike(0, n, 20).chosen(), 0);
            due("chosen of " + n + " on one", alike(1, n, 20).chosen(), 1);
        }
        TrackMarket x = inARow(20);
        x.setTracks(0);
        due("chosen of a row on no tracks", x.chosen(), 0);
    }

    private static void chosenOfEightJobs() {
        due("all eight in a row", inARow(1).chosen(), 255);
        for (int tracks = 0; tracks <= 4; tracks++) {
            due("eight like jobs on " + tracks, alike(tracks, 8, 1).chosen(), (1 << tracks) - 1);
        }
        for (int j = 0; j < 8; j++) {
            TrackMarket x = alike(1, 8, 19);
            x.revalue(j, 20);
            due("the worthiest of eight is " + j, x.chosen(), 1 << j);
        }
        TrackMarket pairs = new TrackMarket(4);
        for (int j = 0; j < 8; j++) {
            pairs.bring(j % 2 * 8, j % 2 * 8 + 8, 20);
        }
        due("four and four on four tracks", pairs.chosen(), 255);
        pairs.setTracks(3);
        due("four and four on three tracks", pairs.chosen(), 0b00111111);
    }

    private static void totalLeastAndMost() {
        for (int tracks = 0; tracks <= 4; tracks++) {
            due("total of no jobs on " + tracks, new TrackMarket(tracks).total(), 0);
            due("total of eight like jobs on " + tracks, alike(tracks, 8, 20).total(), 20 * tracks);
            due("total of one job on " + tracks, alike(tracks, 1, 1).total(), bit(tracks > 0));
        }
        due("the least total of eight chosen jobs", inARow(1).total(), 8);
        due("the greatest total", inARow(20).total(), 160);
    }

    private static void spansAreHalfOpen() {
        for (int t = 1; t < 16; t++) {
            TrackMarket x = new TrackMarket(1);
            x.bring(0, t, 3);
            x.bring(t, 16, 3);
            due("end meets start at " + t, x.chosen(), 3);
            TrackMarket y = new TrackMarket(1);
            y.bring(0, t, 3);
            y.bring(t - 1, 16, 3);
            due("start before the end at " + t, y.chosen(), 1);
        }
    }

    private static void firstAndLastTime() {
        for (int t = 0; t < 16; t++) {
            TrackMarket x = new TrackMarket(1);
            x.bring(0, 16, 3);
            x.bring(t, t + 1, 3);
            due("both at time " + t, x.fits(3), FALSE);
            due("chosen at time " + t, x.chosen(), 1);
            x.setTracks(2);
            due("both on two tracks at time " + t, x.fits(3), TRUE);
        }
    }

    private static void asManyAsThereAreTracks() {
        for (int tracks = 0; tracks <= 4; tracks++) {
            TrackMarket x = alike(tracks, 8, 3);
            for (int n = 0; n <= 8; n++) {
                due(n + " at once on " + tracks, x.fits((1 << n) - 1), bit(n <= tracks));
            }
        }
    }

    /**
     * Jobs below c stand alone, and are in every best set. Of those from c on, job k is worth as much as all the
     * others together and overlaps each of them.
     */
    private static TrackMarket oneAgainstMany(int c, int k) {
        TrackMarket x = new TrackMarket(1);
        for (int j = 0; j < 8; j++) {
            if (j < c) {
                x.bring(j, j + 1, 3);
            } else if (j == k) {
                x.bring(8, 16, 7 - c);
            } else {
                x.bring(j < k ? 8 + j - c : 7 + j - c, j < k ? 9 + j - c : 8 + j - c, 1);
            }
        }
        return x;
    }

    private static void equalWorths() {
        for (int c = 0; c <= 6; c++) {
            for (int k = c; k < 8; k++) {
                TrackMarket x = oneAgainstMany(c, k);
                String what = k + " against all others from " + c;
                due("chosen of " + what, x.chosen(), k == c ? (2 << c) - 1 : 255 & ~(1 << k));
                due("total of " + what, x.total(), 3 * c + 7 - c);
                due("price of " + what, x.price(k), k == c ? 7 - c : 8 - c);
            }
        }
        for (int tracks = 1; tracks <= 4; tracks++) {
            TrackMarket x = alike(tracks, 8, 20);
            x.take(0);
            due("like jobs without 0 on " + tracks, x.chosen(), (2 << tracks) - 2);
        }
    }

    private static void almostEqualWorths() {
        for (int c = 0; c <= 6; c++) {
            TrackMarket first = oneAgainstMany(c, c);
            first.revalue(7, 2);
            due("the others, worth one more, from " + c, first.chosen(), 255 & ~(1 << c));
            TrackMarket last = oneAgainstMany(c, 7);
            last.revalue(7, 8 - c);
            due("job 7, worth one more, from " + c, last.chosen(), (1 << c) - 1 | 128);
        }
    }

    // ---- promises 10 and 11

    private static void fitsNeedsEveryBitThere() {
        TrackMarket full = inARow(5);
        TrackMarket some = SOME.make();
        TrackMarket none = new TrackMarket(4);
        for (int b = 0; b < 32; b++) {
            due("fits of bit " + b + ", eight there", full.fits(1 << b), bit(b < 8));
            due("fits of all and bit " + b, full.fits(255 | 1 << b), bit(b < 8));
            due("fits of bit " + b + ", some there", some.fits(1 << b), bit(b == 0 || b == 1 || b == 3 || b == 6));
            due("fits of job 0 and bit " + b, some.fits(1 | 1 << b), bit(b == 0 || b == 1 || b == 3 || b == 6));
            due("fits of bit " + b + ", none there", none.fits(1 << b), FALSE);
        }
        for (int set : new int[] {-1, LOW, HIGH, LOW + 1, HIGH - 1, -256, ~255 | 1, 256, 511}) {
            due("fits(" + set + "), eight there", full.fits(set), FALSE);
            due("fits(" + set + "), some there", some.fits(set), FALSE);
            due("fits(" + set + "), none there", none.fits(set), FALSE);
        }
        full.take(7);
        due("fits with a taken job", full.fits(255), FALSE);
        due("fits without the taken job", full.fits(127), TRUE);
    }

    private static void fitsOnTheLastTrack() {
        for (int tracks = 0; tracks <= 4; tracks++) {
            due("no job, none there, on " + tracks, new TrackMarket(tracks).fits(0), TRUE);
            TrackMarket x = alike(tracks, 8, 1);
            due("no job on " + tracks, x.fits(0), TRUE);
            due("as many as tracks, the last numbers, on " + tracks, x.fits(255 & ~(255 >> tracks)), TRUE);
            due("one more on " + tracks, x.fits(255 & ~(255 >> tracks + 1)), FALSE);
            due("eight on " + tracks, x.fits(255), FALSE);
        }
        due("eight in a row on one", inARow(1).fits(255), TRUE);
    }

    private static void tracksForNoneToEight() {
        for (int tracks = 0; tracks <= 4; tracks++) {
            TrackMarket x = alike(tracks, 8, 1);
            for (int n = 0; n <= 8; n++) {
                due("tracks for " + n + " at once", x.tracksFor((1 << n) - 1), n);
                due("tracks for the last " + n + " at once", x.tracksFor(255 & ~(255 >> n)), n);
            }
            due("tracks for no job, none there", new TrackMarket(tracks).tracksFor(0), 0);
        }
        due("tracks for eight in a row", inARow(1).tracksFor(255), 1);
        TrackMarket ends = new TrackMarket(0);
        ends.bring(0, 1, 1);
        ends.bring(0, 16, 1);
        ends.bring(15, 16, 1);
        due("two at time 0", ends.tracksFor(0b011), 2);
        due("two at time 15", ends.tracksFor(0b110), 2);
        due("two at both ends", ends.tracksFor(0b111), 2);
        due("one at each end", ends.tracksFor(0b101), 1);
    }

    private static void tracksForOtherBits() {
        TrackMarket none = new TrackMarket(2);
        TrackMarket some = alike(2, 8, 1);
        some.take(0);
        some.take(5);
        int there = some.jobs();
        for (int b = 0; b < 32; b++) {
            boolean job = (there >>> b & 1) != 0;
            due("tracks for bit " + b + ", none there", none.tracksFor(1 << b), 0);
            due("tracks for bit " + b + ", some there", some.tracksFor(1 << b), bit(job));
            due("tracks for all there and bit " + b, some.tracksFor(there | 1 << b), 6);
            due("tracks for job 1 and bit " + b, some.tracksFor(2 | 1 << b), job && b != 1 ? 2 : 1);
        }
        due("tracks for all bits", some.tracksFor(-1), 6);
        due("tracks for all bits but 31", some.tracksFor(HIGH), 6);
        due("tracks for bit 31", some.tracksFor(LOW), 0);
        due("tracks for bits of no job", some.tracksFor(~there), 0);
        due("tracks for all bits, none there", none.tracksFor(-1), 0);
        due("tracks for all bits, eight there", alike(0, 8, 1).tracksFor(-1), 8);
    }

    // ---- promise 16

    private static void busyAtTheEndsOfASpan() {
        for (int s = 0; s < 16; s++) {
            for (int e = s + 1; e <= 16; e++) {
                TrackMarket x = new TrackMarket(1);
                x.bring(s, e, 1);
                String what = " of " + s + " up to " + e;
                due("busy before the start" + what, x.busy(s - 1), 0);
                due("busy at the start" + what, x.busy(s), 1);
                due("busy at the last time" + what, x.busy(e - 1), 1);
                due("busy at the end" + what, x.busy(e), 0);
            }
        }
    }

    private static void busyOutsideTime() {
        TrackMarket x = new TrackMarket(1);
        x.bring(0, 16, 1);
        due("busy(0)", x.busy(0), 1);
        due("busy(15)", x.busy(15), 1);
        for (int t = 1; t <= 64; t++) {
            due("busy(" + -t + ")", x.busy(-t), 0);
            due("busy(" + (15 + t) + ")", x.busy(15 + t), 0);
        }
        for (int t : new int[] {LOW, LOW + 1, LOW + 8, -256, 256, 264, HIGH - 8, HIGH - 1, HIGH}) {
            due("busy(" + t + ")", x.busy(t), 0);
            due("busy(" + t + "), none there", new TrackMarket(4).busy(t), 0);
        }
    }

    private static void busyNoneAndMost() {
        for (int tracks = 0; tracks <= 4; tracks++) {
            due("no jobs on " + tracks, busyTimes(new TrackMarket(tracks)), " 0".repeat(16));
            TrackMarket x = new TrackMarket(tracks);
            for (int j = 0; j < 8; j++) {
                x.bring(0, 16, 20);
            }
            due("eight jobs on " + tracks, busyTimes(x), (" " + tracks).repeat(16));
        }
        TrackMarket y = rivals(1, 2);
        y.bring(0, 1, 1);
        due("of the chosen set alone", busyTimes(y), " 1".repeat(16));
        y.take(1);
        y.take(0);
        due("of the jobs still there", busyTimes(y), " 1" + " 0".repeat(15));
    }

    // ---- promise 12

    private static void priceFromOneToTwenty() {
        for (int worth = 1; worth <= 20; worth++) {
            due("goes before a rival of " + worth, rivals(9, worth).price(0), worth);
            due("goes behind a rival of " + worth, rivals(worth, 9).price(1), worth + 1);
        }
        TrackMarket x = inARow(20);
        for (int j = 0; j < 8; j++) {
            due("no rival for " + j, x.price(j), 1);
        }
        TrackMarket two = rivals(5, 20);
        two.setTracks(2);
        due("room for both", two.price(0), 1);
        due("room for both", two.price(1), 1);
        TrackMarket y = againstTwo(10, 10);
        due("goes before 10 and 10", y.price(0), 20);
        y.revalue(2, 9);
        due("goes before 10 and 9", y.price(0), 19);
        due("decides between equals, going behind", betweenEquals(0, 3).price(3), 1);
        due("decides between equals, going before", betweenEquals(1, 0).price(0), 1);
    }

    /** A long job is worth as much as two short ones together; a third short one has room beside those two alone. */
    private static TrackMarket betweenEquals(int longNumber, int thirdNumber) {
        int[][] shorts = {{0, 5, 2}, {5, 10, 3}};
        int used = 0;
        TrackMarket x = new TrackMarket(1);
        for (int j = 0; j < 4; j++) {
            if (j == longNumber) {
                x.bring(0, 11, 5);
            } else if (j == thirdNumber) {
                x.bring(10, 11, 9);
            } else {
                x.bring(shorts[used][0], shorts[used][1], shorts[used][2]);
                used++;
            }
        }
        return x;
    }

    /** Job 0 overlaps jobs 1 and 2, which have room beside each other, on one track. */
    private static TrackMarket againstTwo(int worth1, int worth2) {
        TrackMarket x = new TrackMarket(1);
        x.bring(0, 10, 1);
        x.bring(0, 5, worth1);
        x.bring(5, 10, worth2);
        return x;
    }

    /** The words of the promise carried out: on an object for each worth, is job j chosen with it? */
    private static int priceTriedOut(Making making, int j) {
        for (int worth = 1; worth <= 20; worth++) {
            TrackMarket x = making.make();
            x.revalue(j, worth);
            if ((x.chosen() & 1 << j) != 0) {
                return worth;
            }
        }
        return 21;
    }

    private static void priceByTrial() {
        for (Making making : ALL) {
            for (int tracks = 0; tracks <= 4; tracks++) {
                int n = tracks;
                Making onTracks = () -> {
                    TrackMarket x = making.make();
                    x.setTracks(n);
                    return x;
                };
                priceByTrialOf(onTracks);
            }
        }
    }

    private static void priceByTrialOf(Making making) {
        int there = making.make().jobs();
        for (int j = 0; j < 8; j++) {
            if ((there & 1 << j) != 0) {
                int want = priceTriedOut(making, j);
                for (int worth : new int[] {1, 2, 10, 19, 20}) {
                    TrackMarket x = making.make();
                    x.revalue(j, worth);
                    due("price(" + j + ") with the worth " + worth + " of its own", x.price(j), want);
                }
            }
        }
    }

    private static void priceOutOfReach() {
        due("20 is within reach", rivals(1, 20).price(0), 20);
        due("behind a rival of 19", rivals(19, 1).price(1), 20);
        due("behind a rival of 20", rivals(20, 20).price(1), 21);
        due("rivals of 20 together", againstTwo(1, 19).price(0), 20);
        due("rivals of 21 together", againstTwo(1, 20).price(0), 21);
        due("rivals of 22 together", againstTwo(2, 20).price(0), 21);
        due("rivals of 40 together", againstTwo(20, 20).price(0), 21);
        TrackMarket eight = new TrackMarket(1);
        eight.bring(0, 16, 20);
        for (int j = 1; j < 8; j++) {
            eight.bring(2 * j, 2 * j + 2, 20);
        }
        due("rivals of 140 together", eight.price(0), 21);
        for (int j = 0; j < 8; j++) {
            due("no tracks for job " + j, alike(0, 8, 20).price(j), 21);
        }
        due("no tracks, no rival", alike(0, 1, 20).price(0), 21);
        due("one track, no rival", alike(1, 1, 20).price(0), 1);
    }

    private static void priceOfNoJob() {
        for (Making making : ALL) {
            for (int j : numbersWithoutJob(making)) {
                due("price(" + j + ")", making.make().price(j), NONE);
            }
        }
        TrackMarket x = rivals(5, 5);
        x.take(1);
        due("price of a taken job", x.price(1), NONE);
        due("price of the job that is left", x.price(0), 1);
        x.bring(0, 16, 5);
        due("price of a job that came back", x.price(1), 6);
    }

    private static void priceChangesNothing() {
        for (Making making : ALL) {
            for (int j = 0; j < 8; j++) {
                int number = j;
                int answer = making.make().price(j);
                changesNothing("price(" + j + ")", making, x -> x.price(number), answer);
            }
            for (int j : new int[] {-1, 8, 32, LOW, HIGH}) {
                changesNothing("price(" + j + ")", making, x -> x.price(j), NONE);
            }
        }
    }

    // ---- promise 13

    private static void totalWithEachJob() {
        TrackMarket row = inARow(20);
        due("nothing asked", row.totalWith(0, 0), 160);
        due("must all", row.totalWith(255, 0), 160);
        due("never any", row.totalWith(0, 255), 0);
        TrackMarket like = alike(1, 8, 5);
        for (int j = 0; j < 8; j++) {
            like.revalue(j, j + 1);
        }
        for (int j = 0; j < 8; j++) {
            due("must have " + j, like.totalWith(1 << j, 0), j + 1);
            due("must have " + j + " and none else", like.totalWith(1 << j, ~(1 << j)), j + 1);
            due("never " + j, like.totalWith(0, 1 << j), j == 7 ? 7 : 8);
            due("never any but " + j, like.totalWith(0, ~(1 << j)), j + 1);
            due("all but " + j + " in a row", row.totalWith(0, 1 << j), 140);
        }
    }

    private static void totalWithNone() {
        for (int tracks = 0; tracks <= 4; tracks++) {
            TrackMarket x = alike(tracks, 8, 2);
            int most = (1 << tracks) - 1;
            due("must have as many as tracks", x.totalWith(most << 4, 0), 2 * tracks);
            due("must have one more", x.totalWith(most << 1 | 1, 0), NONE);
            due("must have eight", x.totalWith(255, 0), NONE);
            due("never any", x.totalWith(0, 255), 0);
            due("nothing asked", x.totalWith(0, 0), 2 * tracks);
            due("no jobs", new TrackMarket(tracks).totalWith(0, 0), 0);
        }
        TrackMarket row = inARow(3);
        for (int j = 0; j < 8; j++) {
            due("must and never " + j, row.totalWith(1 << j, 1 << j), NONE);
            due("must all and never " + j, row.totalWith(255, 1 << j), NONE);
            due("must " + j + " and never any", row.totalWith(1 << j, 255), NONE);
            due("must all others and never " + j, row.totalWith(255 & ~(1 << j), 1 << j), 21);
        }
        due("must and never all", row.totalWith(255, 255), NONE);
        due("must and never all bits", row.totalWith(-1, -1), NONE);
    }

    private static void totalWithOtherBits() {
        TrackMarket x = inARow(4);
        x.take(2);
        x.take(7);
        int there = x.jobs();
        for (int b = 0; b < 32; b++) {
            if ((there >>> b & 1) == 0) {
                due("must bit " + b, x.totalWith(1 << b, 0), 24);
                due("never bit " + b, x.totalWith(0, 1 << b), 24);
                due("must and never bit " + b, x.totalWith(1 << b, 1 << b), 24);
                due("must job 0 and bit " + b, x.totalWith(1 | 1 << b, ~1), 4);
            }
        }
        due("must all bits", x.totalWith(-1, 0), 24);
        due("must all bits but 31", x.totalWith(HIGH, LOW), 24);
        due("must all bits, never those of no job", x.totalWith(-1, ~there), 24);
        due("never all bits", x.totalWith(0, -1), 0);
        due("never all bits but 31", x.totalWith(LOW, HIGH), 0);
        TrackMarket none = new TrackMarket(0);
        for (int set : new int[] {-1, 1, 128, 256, LOW, HIGH}) {
            due("no jobs, no tracks, must " + set, none.totalWith(set, 0), 0);
            due("no jobs, no tracks, never " + set, none.totalWith(0, set), 0);
            due("no jobs, no tracks, both " + set, none.totalWith(set, set), 0);
        }
        TrackMarket bare = alike(0, 1, 9);
        due("no tracks, must bits of no job", bare.totalWith(~1, 0), 0);
        due("no tracks, must the job", bare.totalWith(1, 0), NONE);
    }

    // ---- promises 14 and 15

    /** Job j is worth 2 to the power of j, up to 16, and all overlap; on n tracks the n last are chosen. */
    private static TrackMarket powers(int tracks, int n) {
        TrackMarket x = new TrackMarket(tracks);
        for (int j = 0; j < n; j++) {
            x.bring(0, 16, 1 << j);
        }
        return x;
    }

    private static void gainUpToFive() {
        int[] gains = {16, 8, 4, 2, 1};
        for (int tracks = 0; tracks <= 4; tracks++) {
            due("gain of five jobs on " + tracks, powers(tracks, 5).gain(), gains[tracks]);
            due("gain of no jobs on " + tracks, new TrackMarket(tracks).gain(), 0);
            due("gain of eight like jobs on " + tracks, alike(tracks, 8, 20).gain(), 20);
            due("gain of four jobs on " + tracks, alike(tracks, 4, 20).gain(), tracks < 4 ? 20 : 0);
            changesNothing("gain on " + tracks, at(tracks), x -> x.gain(), gains[tracks]);
        }
        due("gain of a row on one", inARow(20).gain(), 0);
        TrackMarket row = inARow(20);
        row.setTracks(0);
        due("gain of a row on none", row.gain(), 160);
    }

    private static Making at(int tracks) {
        return () -> powers(tracks, 5);
    }

    private static void lossDownToNone() {
        int[] losses = {NONE, 16, 8, 4, 2};
        for (int tracks = 1; tracks <= 4; tracks++) {
            due("loss of five jobs on " + tracks, powers(tracks, 5).loss(), losses[tracks]);
            due("loss of no jobs on " + tracks, new TrackMarket(tracks).loss(), 0);
            due("loss of eight like jobs on " + tracks, alike(tracks, 8, 20).loss(), 20);
            due("loss of one job on " + tracks, alike(tracks, 1, 20).loss(), tracks == 1 ? 20 : 0);
            changesNothing("loss on " + tracks, at(tracks), x -> x.loss(), losses[tracks]);
        }
        due("loss of a row on one", inARow(20).loss(), 160);
    }

    private static void lossOnNoTracks() {
        due("loss of no jobs on none", new TrackMarket(0).loss(), NONE);
        due("loss of no jobs on fewer than none", new TrackMarket(LOW).loss(), NONE);
        due("loss of one job on none", alike(0, 1, 20).loss(), NONE);
        due("loss of eight jobs on none", alike(0, 8, 20).loss(), NONE);
        TrackMarket x = alike(1, 8, 20);
        x.setTracks(0);
        due("loss after the last track went", x.loss(), NONE);
        x.setTracks(1);
        due("loss after one track came", x.loss(), 20);
        changesNothing("loss on none", at(0), y -> y.loss(), NONE);
    }

    // ---- promise 17 and the limits

    private static void badBeforeFull() {
        int[][] bad = {
            {-1, 16, 20}, {LOW, 16, 20}, {0, 0, 20}, {16, 16, 1}, {9, 8, 1}, {0, 17, 20}, {0, HIGH, 20},
            {0, 16, 0}, {0, 16, 21}, {0, 16, LOW}, {0, 16, HIGH}, {-1, 17, 0}, {HIGH, LOW, 5}};
        for (int[] b : bad) {
            String what = "bring(" + b[0] + ", " + b[1] + ", " + b[2] + ")";
            due(what + " with seven there", alike(2, 7, 3).bring(b[0], b[1], b[2]), BAD);
            due(what + " with eight there", alike(2, 8, 3).bring(b[0], b[1], b[2]), BAD);
            changesNothing(what, EIGHT, x -> x.bring(b[0], b[1], b[2]), BAD);
        }
        due("good with seven there", alike(2, 7, 3).bring(0, 16, 20), 7);
        due("good with eight there", alike(2, 8, 3).bring(0, 16, 20), FULL);
        due("good, least worth, with eight there", alike(2, 8, 3).bring(15, 16, 1), FULL);
    }

    private static void theLastCall() {
        TrackMarket x = new TrackMarket(1);
        for (int call = 1; call <= 508; call += 2) {
            due("call " + call, x.bring(0, 16, 20), 0);
            due("call " + (call + 1), x.take(0), TRUE);
        }
        due("call 509", x.bring(0, 16, 20), 0);
        due("call 510", x.jobs(), 1);
        due("call 511", x.price(0), 1);
        due("call 512", x.total(), 20);
    }

    private static void questionsChangeNothing() {
        for (Making making : ALL) {
            unchanged("fits", making, x -> bit(x.fits(255)) + bit(x.fits(LOW)) + bit(x.fits(-1)));
            unchanged("tracksFor", making, x -> x.tracksFor(255) + x.tracksFor(LOW) + x.tracksFor(-1));
            unchanged("totalWith", making, x -> x.totalWith(255, 0) + x.totalWith(-1, -1) + x.totalWith(LOW, HIGH));
            unchanged("busy", making, x -> x.busy(0) + x.busy(15) + x.busy(-1) + x.busy(16) + x.busy(LOW));
            unchanged("chosen and total", making, x -> x.chosen() + x.total());
            unchanged("tracks and jobs", making, x -> x.tracks() + x.jobs());
            unchanged("gain and loss", making, x -> x.gain() + x.loss());
        }
    }

    private static void unchanged(String what, Making making, Call call) {
        int answer = call.answer(making.make());
        changesNothing(what, making, call, answer);
    }
}
