/** One method for each promise of the document: ordinary inputs, named edges and wrong inputs. */
public final class TrackMarketPromises {
    private static final int LOW = Integer.MIN_VALUE;
    private static final int HIGH = Integer.MAX_VALUE;

    private static int promise;
    private static int right = 0;
    private static int wrong = 0;

    public static void main(String[] args) {
        promise = 1;
        newObject();
        promise = 2;
        bringAnswers();
        bringRefusesBadInput();
        bringGivesLeastFreeNumber();
        promise = 3;
        take();
        promise = 4;
        revalue();
        promise = 5;
        setTracks();
        promise = 6;
        tracks();
        promise = 7;
        jobs();
        promise = 8;
        chosenHasGreatestWorth();
        chosenAmongEqualWorths();
        chosenUsesHalfOpenSpans();
        promise = 9;
        total();
        promise = 10;
        fits();
        promise = 11;
        tracksFor();
        promise = 12;
        price();
        priceAtEqualWorths();
        priceOfNoJob();
        promise = 13;
        totalWith();
        totalWithForeignBits();
        promise = 14;
        gain();
        promise = 15;
        loss();
        promise = 16;
        busy();
        promise = 17;
        badBeforeFull();
        System.out.println(right + " passed, " + wrong + " failed");
        if (wrong != 0) {
            System.exit(1);
        }
    }

    private static void due(String what, int got, int want) {
        if (got == want) {
            right++;
        } else {
            wrong++;
            System.out.println("promise " + promise + ": " + what + " answered " + got + ", due is " + want);
        }
    }

    private static void due(String what, boolean got, boolean want) {
        due(what, got ? 1 : 0, want ? 1 : 0);
    }

    /** Jobs 0 .. n-1, all over the same span with the same worth. */
    private static TrackMarket alike(int tracks, int n, int worth) {
        TrackMarket x = new TrackMarket(tracks);
        for (int j = 0; j < n; j++) {
            due("bring of like job " + j, x.bring(2, 5, worth), j);
        }
        return x;
    }

    /** Job 0 overlaps 1 and 2, which do not overlap each other. */
    private static TrackMarket longAndTwoShort(int tracks, int w0, int w1, int w2) {
        TrackMarket x = new TrackMarket(tracks);
        due("bring long", x.bring(0, 10, w0), 0);
        due("bring first short", x.bring(0, 5, w1), 1);
        due("bring second short", x.bring(5, 10, w2), 2);
        return x;
    }

    private static void newObject() {
        int[] given = {LOW, -1, 0, 1, 2, 3, 4, 5, HIGH};
        int[] kept = {0, 0, 0, 1, 2, 3, 4, 4, 4};
        for (int i = 0; i < given.length; i++) {
            TrackMarket x = new TrackMarket(given[i]);
            due("tracks of new " + given[i], x.tracks(), kept[i]);
            due("jobs of new " + given[i], x.jobs(), 0);
            due("chosen of new " + given[i], x.chosen(), 0);
            due("total of new " + given[i], x.total(), 0);
        }
        TrackMarket one = new TrackMarket(1);
        TrackMarket other = new TrackMarket(1);
        one.bring(0, 1, 1);
        due("jobs of another object", other.jobs(), 0);
    }

    private static void bringAnswers() {
        TrackMarket x = new TrackMarket(2);
        due("widest span, least worth", x.bring(0, 16, 1), 0);
        due("first span, most worth", x.bring(0, 1, 20), 1);
        due("last span", x.bring(15, 16, 20), 2);
        due("jobs", x.jobs(), 7);
        due("chosen", x.chosen(), 7);
        due("total", x.total(), 41);
        for (int j = 3; j < 8; j++) {
            due("bring", x.bring(4, 9, j), j);
        }
        due("ninth", x.bring(4, 9, 5), TrackMarket.FULL);
        due("jobs when full", x.jobs(), 255);
        due("total when full", x.total(), 20 + 20 + 7 + 6);
    }

    private static void bringRefusesBadInput() {
        TrackMarket x = new TrackMarket(4);
        int[][] bad = {
            {-1, 3, 5}, {LOW, 3, 5}, {3, 3, 5}, {4, 3, 5}, {0, 0, 5}, {0, 17, 5}, {0, HIGH, 5},
            {16, 16, 5}, {16, 17, 5}, {HIGH, LOW, 5}, {0, -1, 5}, {LOW, HIGH, 5},
            {0, 16, 0}, {0, 16, -1}, {0, 16, 21}, {0, 16, LOW}, {0, 16, HIGH}, {-1, 17, 0}};
        for (int[] b : bad) {
            due("bring(" + b[0] + ", " + b[1] + ", " + b[2] + ")", x.bring(b[0], b[1], b[2]), TrackMarket.BAD);
            due("jobs after a bad bring", x.jobs(), 0);
        }
        due("bring after bad ones", x.bring(0, 16, 20), 0);
    }

    private static void bringGivesLeastFreeNumber() {
        TrackMarket x = alike(4, 8, 3);
        due("take", x.take(6), true);
        due("take", x.take(2), true);
        due("take", x.take(4), true);
        due("least gap", x.bring(0, 1, 9), 2);
        due("next gap", x.bring(0, 1, 9), 4);
        due("last gap", x.bring(0, 1, 9), 6);
        due("no gap", x.bring(0, 1, 9), TrackMarket.FULL);
        due("the new jobs hold their own spans", x.tracksFor(0b1010100), 3);
        due("the new jobs and the old", x.chosen(), 0b1010100 | 0b0101011);
    }

    private static void take() {
        TrackMarket x = longAndTwoShort(1, 10, 4, 5);
        due("chosen before", x.chosen(), 1);
        int[] none = {3, 7, 8, 31, 32, 33, -1, -32, LOW, HIGH};
        for (int j : none) {
            due("take(" + j + ")", x.take(j), false);
            due("jobs after take(" + j + ")", x.jobs(), 7);
        }
        due("take(0)", x.take(0), true);
        due("jobs", x.jobs(), 6);
        due("chosen", x.chosen(), 6);
        due("total", x.total(), 9);
        due("take(0) again", x.take(0), false);
        due("jobs", x.jobs(), 6);
        due("bring", x.bring(12, 13, 1), 0);
        due("total without the worth of the taken job", x.total(), 10);
        TrackMarket last = alike(4, 8, 1);
        due("take(7)", last.take(7), true);
        due("jobs", last.jobs(), 127);
    }

    private static void revalue() {
        TrackMarket x = longAndTwoShort(1, 10, 4, 5);
        due("revalue(1, 20)", x.revalue(1, 20), true);
        due("chosen", x.chosen(), 6);
        due("total", x.total(), 25);
        due("revalue(1, 1)", x.revalue(1, 1), true);
        due("total", x.total(), 10);
        due("revalue(0, 5)", x.revalue(0, 5), true);
        due("total", x.total(), 6);
        int[] badWorths = {0, 21, -1, LOW, HIGH};
        for (int w : badWorths) {
            due("revalue(1, " + w + ")", x.revalue(1, w), false);
            due("total after it", x.total(), 6);
        }
        int[] none = {3, 7, 8, 32, 33, -1, -31, LOW, HIGH};
        for (int j : none) {
            due("revalue(" + j + ", 20)", x.revalue(j, 20), false);
            due("total after it", x.total(), 6);
            due("jobs after it", x.jobs(), 7);
        }
        x.take(1);
        due("revalue of a taken job", x.revalue(1, 20), false);
        due("total", x.total(), 5);
        due("jobs", x.jobs(), 5);
    }

    private static void setTracks() {
        TrackMarket x = alike(2, 6, 3);
        int[] bad = {-1, 5, LOW, HIGH};
        for (int n : bad) {
            due("setTracks(" + n + ")", x.setTracks(n), false);
            due("tracks after it", x.tracks(), 2);
            due("total after it", x.total(), 6);
        }
        for (int n = 0; n <= 4; n++) {
            due("setTracks(" + n + ")", x.setTracks(n), true);
            due("tracks", x.tracks(), n);
            due("total", x.total(), 3 * n);
            due("jobs", x.jobs(), 63);
        }
        due("setTracks to what it is", x.setTracks(4), true);
    }

    private static void tracks() {
        TrackMarket x = alike(3, 2, 3);
        due("tracks with spare ones", x.tracks(), 3);
        x.gain();
        x.loss();
        x.tracksFor(3);
        due("tracks after asking", x.tracks(), 3);
        x.setTracks(0);
        due("no tracks", x.tracks(), 0);
    }

    private static void jobs() {
        TrackMarket x = alike(0, 8, 3);
        due("all, though none is chosen", x.jobs(), 255);
        for (int j = 0; j < 8; j += 2) {
            x.take(j);
        }
        due("the odd ones", x.jobs(), 0b10101010);
    }

    private static void chosenHasGreatestWorth() {
        due("two short ones", longAndTwoShort(1, 8, 4, 5).chosen(), 6);
        due("one long one", longAndTwoShort(1, 10, 4, 5).chosen(), 1);
        due("all on two tracks", longAndTwoShort(2, 8, 4, 5).chosen(), 7);
        due("none without tracks", longAndTwoShort(0, 8, 4, 5).chosen(), 0);
        TrackMarket x = alike(2, 5, 3);
        x.revalue(4, 4);
        due("the worthier job", x.chosen(), 0b10001);
        x.take(0);
        due("of those still there", x.chosen(), 0b10010);
        due("all eight on time alone", inARow().chosen(), 255);
    }

    private static TrackMarket inARow() {
        TrackMarket x = new TrackMarket(1);
        for (int j = 0; j < 8; j++) {
            x.bring(2 * j, 2 * j + 2, 20);
        }
        return x;
    }

    private static void chosenAmongEqualWorths() {
        due("like jobs: the least numbers", alike(2, 5, 3).chosen(), 3);
        due("the set with job 0, though it is smaller", longAndTwoShort(1, 9, 4, 5).chosen(), 1);
        TrackMarket x = new TrackMarket(1);
        x.bring(0, 5, 4);
        x.bring(0, 10, 9);
        x.bring(5, 10, 5);
        due("{0, 2} before {1}", x.chosen(), 5);
        TrackMarket y = new TrackMarket(1);
        y.bring(12, 13, 1);
        y.bring(0, 10, 9);
        y.bring(0, 5, 4);
        y.bring(5, 10, 5);
        due("{0, 1} before {0, 2, 3}", y.chosen(), 3);
        TrackMarket z = new TrackMarket(1);
        z.bring(0, 8, 6);
        z.bring(0, 8, 6);
        z.bring(8, 16, 6);
        z.bring(8, 16, 6);
        due("{0, 2} before all others", z.chosen(), 5);
        z.take(0);
        z.bring(8, 16, 6);
        due("{0, 1} before {1, 2}", z.chosen(), 3);
    }

    private static void chosenUsesHalfOpenSpans() {
        TrackMarket x = new TrackMarket(1);
        x.bring(0, 7, 2);
        x.bring(7, 16, 2);
        due("end meets start", x.chosen(), 3);
        x.bring(6, 7, 3);
        due("the last time before the end", x.chosen(), 6);
        TrackMarket y = new TrackMarket(1);
        y.bring(0, 16, 1);
        y.bring(15, 16, 2);
        due("time 15", y.chosen(), 2);
        TrackMarket z = new TrackMarket(1);
        z.bring(0, 16, 1);
        z.bring(0, 1, 2);
        due("time 0", z.chosen(), 2);
    }

    private static void total() {
        due("two short ones", longAndTwoShort(1, 8, 4, 5).total(), 9);
        due("one long one", longAndTwoShort(1, 20, 4, 5).total(), 20);
        due("all", longAndTwoShort(2, 8, 4, 5).total(), 17);
        due("no tracks", longAndTwoShort(0, 8, 4, 5).total(), 0);
        due("no jobs", new TrackMarket(4).total(), 0);
        due("the greatest there can be", inARow().total(), 160);
    }

    private static void fits() {
        TrackMarket x = longAndTwoShort(1, 8, 4, 5);
        boolean[] due = {true, true, true, false, true, false, true, false};
        for (int set = 0; set < 8; set++) {
            due("fits(" + set + ")", x.fits(set), due[set]);
        }
        due("a job that is not there", x.fits(8), false);
        due("there and not there", x.fits(2 | 128), false);
        due("bit 8", x.fits(1 | 256), false);
        due("bit 31", x.fits(1 | LOW), false);
        due("bit 31 alone", x.fits(LOW), false);
        due("all bits", x.fits(-1), false);
        for (int bit = 3; bit < 32; bit++) {
            due("bit " + bit, x.fits(1 << bit), false);
        }
        x.setTracks(0);
        due("the empty set on no track", x.fits(0), true);
        due("one job on no track", x.fits(2), false);
        x.setTracks(2);
        due("all on two", x.fits(7), true);
        x.take(1);
        due("a taken job", x.fits(7), false);
        due("those left", x.fits(5), true);
        TrackMarket y = alike(4, 8, 1);
        due("four on four", y.fits(0b11110000), true);
        due("five on four", y.fits(0b11111000), false);
    }

    private static void tracksFor() {
        TrackMarket x = longAndTwoShort(0, 8, 4, 5);
        int[] due = {0, 1, 1, 2, 1, 2, 1, 2};
        for (int set = 0; set < 8; set++) {
            due("tracksFor(" + set + ")", x.tracksFor(set), due[set]);
            due("tracksFor with other bits", x.tracksFor(set | ~7), due[set]);
        }
        due("bits of no job", x.tracksFor(~7), 0);
        x.take(0);
        due("a taken job", x.tracksFor(7), 1);
        TrackMarket y = alike(1, 8, 1);
        due("eight at once", y.tracksFor(255), 8);
        due("five at once", y.tracksFor(0b10111010), 5);
        due("eight at once and other bits", y.tracksFor(-1), 8);
        TrackMarket z = new TrackMarket(1);
        z.bring(15, 16, 1);
        z.bring(15, 16, 1);
        z.bring(0, 1, 1);
        due("at the last time", z.tracksFor(7), 2);
        due("in a row", inARow().tracksFor(255), 1);
    }

    private static void price() {
        TrackMarket x = longAndTwoShort(1, 3, 4, 5);
        due("long: draws at 9 and goes before", x.price(0), 9);
        due("nothing changed", x.total(), 9);
        due("nothing changed", x.chosen(), 6);
        due("short: may do with 1", x.price(1), 1);
        x.revalue(0, 20);
        due("beyond the draw at 15", x.price(1), 16);
        due("beyond the draw at 16", x.price(2), 17);
        due("the price does not hang on its own worth", x.price(0), 9);
        due("nothing changed", x.total(), 20);
        TrackMarket y = longAndTwoShort(1, 1, 10, 10);
        due("draw at 20, going before", y.price(0), 20);
        y.revalue(1, 11);
        due("draw at 21", y.price(0), 21);
        y.revalue(1, 20);
        y.revalue(2, 20);
        due("far out of reach", y.price(0), 21);
        TrackMarket z = longAndTwoShort(0, 3, 4, 5);
        due("no tracks", z.price(0), 21);
        due("no tracks", z.price(2), 21);
        z.setTracks(4);
        due("room for all", z.price(0), 1);
        due("room for all", z.price(2), 1);
    }

    private static void priceAtEqualWorths() {
        TrackMarket x = alike(2, 5, 3);
        int[] due = {3, 3, 4, 4, 4};
        for (int j = 0; j < 5; j++) {
            due("price(" + j + ")", x.price(j), due[j]);
        }
        TrackMarket dear = alike(1, 2, 20);
        due("goes before at 20", dear.price(0), 20);
        due("would need 21", dear.price(1), 21);
        TrackMarket cheap = alike(1, 2, 1);
        due("goes before at 1", cheap.price(0), 1);
        due("needs 2", cheap.price(1), 2);
        TrackMarket y = new TrackMarket(1);
        y.bring(0, 5, 4);
        y.bring(0, 10, 9);
        y.bring(5, 10, 5);
        due("with its companion 0 job 2 goes before", y.price(2), 5);
        due("job 1 must be worth more", y.price(1), 10);
    }

    private static void priceOfNoJob() {
        TrackMarket x = longAndTwoShort(1, 3, 4, 5);
        int[] none = {3, 7, 8, 31, 32, 33, -1, -32, LOW, HIGH};
        for (int j : none) {
            due("price(" + j + ")", x.price(j), TrackMarket.NONE);
        }
        x.take(1);
        due("price of a taken job", x.price(1), TrackMarket.NONE);
        x.setTracks(0);
        due("no job and no tracks", x.price(1), TrackMarket.NONE);
    }

    private static void totalWith() {
        TrackMarket x = longAndTwoShort(1, 8, 4, 5);
        due("free", x.totalWith(0, 0), 9);
        due("must have the long one", x.totalWith(1, 0), 8);
        due("must have one short one", x.totalWith(2, 0), 9);
        due("never one short one", x.totalWith(0, 2), 8);
        due("one short one without the other", x.totalWith(2, 4), 4);
        due("only short ones", x.totalWith(0, 1), 9);
        due("must does not fit", x.totalWith(3, 0), TrackMarket.NONE);
        due("must and never", x.totalWith(2, 2), TrackMarket.NONE);
        due("must and never, among more", x.totalWith(6, 5), TrackMarket.NONE);
        due("never any", x.totalWith(0, 7), 0);
        x.setTracks(2);
        due("must all", x.totalWith(7, 0), 17);
        x.setTracks(0);
        due("no tracks, no must", x.totalWith(0, 0), 0);
        due("no tracks, a must", x.totalWith(4, 0), TrackMarket.NONE);
        due("nothing changed", x.jobs(), 7);
    }

    private static void totalWithForeignBits() {
        TrackMarket x = longAndTwoShort(1, 8, 4, 5);
        due("must of no job", x.totalWith(~7, 0), 9);
        due("never of no job", x.totalWith(0, ~7), 9);
        due("must and never of no job", x.totalWith(~7, ~7), 9);
        due("must of all bits", x.totalWith(-1, 0), TrackMarket.NONE);
        due("never of all bits", x.totalWith(0, -1), 0);
        due("must of job 0, never of all others", x.totalWith(1 | 8, ~1), 8);
        x.take(0);
        due("a taken job as must", x.totalWith(1, 0), 9);
        due("a taken job as must and never", x.totalWith(1, 1), 9);
        due("no jobs", new TrackMarket(1).totalWith(-1, -1), 0);
    }

    private static void gain() {
        TrackMarket x = alike(0, 6, 3);
        x.revalue(3, 7);
        x.revalue(5, 6);
        x.revalue(0, 5);
        x.revalue(1, 4);
        x.revalue(2, 2);
        x.revalue(4, 1);
        int[] due = {7, 6, 5, 4, 2};
        for (int n = 0; n <= 4; n++) {
            x.setTracks(n);
            due("gain on " + n, x.gain(), due[n]);
            due("tracks after gain", x.tracks(), n);
        }
        due("all are chosen already", inARow().gain(), 0);
        due("no jobs", new TrackMarket(4).gain(), 0);
        due("no jobs and no tracks", new TrackMarket(0).gain(), 0);
        due("from two short to all", longAndTwoShort(1, 8, 4, 5).gain(), 8);
    }

    private static void loss() {
        TrackMarket x = alike(0, 3, 3);
        x.revalue(1, 7);
        x.revalue(2, 5);
        int[] due = {TrackMarket.NONE, 7, 5, 3, 0};
        for (int n = 0; n <= 4; n++) {
            x.setTracks(n);
            due("loss on " + n, x.loss(), due[n]);
            due("tracks after loss", x.tracks(), n);
        }
        due("no jobs", new TrackMarket(1).loss(), 0);
        due("no jobs and no tracks", new TrackMarket(0).loss(), TrackMarket.NONE);
        due("the whole worth", inARow().loss(), 160);
    }

    private static void busy() {
        TrackMarket x = new TrackMarket(2);
        x.bring(0, 4, 5);
        x.bring(3, 16, 6);
        x.bring(2, 5, 1);
        int[] due = {1, 1, 1, 2, 1, 1, 1, 1, 1, 1, 1, 1, 1, 1, 1, 1};
        for (int t = 0; t < 16; t++) {
            due("busy(" + t + ")", x.busy(t), due[t]);
        }
        int[] outside = {-1, 16, 17, 32, LOW, HIGH};
        for (int t : outside) {
            due("busy(" + t + ")", x.busy(t), 0);
        }
        x.setTracks(3);
        due("with the third job", x.busy(3), 3);
        due("with the third job", x.busy(2), 2);
        due("past the first job", x.busy(4), 2);
        x.take(1);
        due("a taken job", x.busy(15), 0);
        x.setTracks(0);
        due("no tracks", x.busy(3), 0);
        due("no jobs", new TrackMarket(4).busy(0), 0);
    }

    private static void badBeforeFull() {
        TrackMarket x = alike(2, 8, 3);
        due("good and full", x.bring(0, 16, 20), TrackMarket.FULL);
        due("bad start and full", x.bring(-1, 16, 20), TrackMarket.BAD);
        due("bad span and full", x.bring(3, 3, 20), TrackMarket.BAD);
        due("bad end and full", x.bring(0, 17, 20), TrackMarket.BAD);
        due("worth too small and full", x.bring(0, 16, 0), TrackMarket.BAD);
        due("worth too great and full", x.bring(0, 16, 21), TrackMarket.BAD);
        due("jobs", x.jobs(), 255);
        due("total", x.total(), 6);
    }
}
