/** The edges that section 3 of the document names, and promises 11 to 17 and 26 with them: a test for each sentence. */
public final class EdgesThoughtsTest {
    private static final int NONE = ShyWell.NONE;
    private static final int WANT = 4, WHERE = 5, GOT = 9, EMPTY = 10, VISITS = 11;

    public static void main(String[] args) {
        nothingChanges();
        asItComesThen();
        behindNone();
        behindMany();
        stoodByAtTheEnd();
        behindTheLastMinute();
        fullInIsTrue();
        fullInAsIfNobodyWas();
        fullAlready();
        fullAboveMost();
        bestOfSeveral();
        bestAtTheEnds();
        bestOfNoUse();
        bestBounds();
        aloneByOneself();
        aloneAllNight();
        aloneWhereverTheyWere();
        aloneMayCost();
        aloneBounds();
        meanOfNone();
        meanInLowestTerms();
        leastOfSeveral();
        explainedByNothing();
        explainedLeast();
        explainedBounds();
        explainedWithinMost();
        explainedSigns();
        fineWithoutText();
        Due.end();
    }

    private static int next(int z) {
        return z * 1103515245 + 12345;
    }

    /** Some are out, some stand, some forget. */
    private static ShyWell busy() {
        ShyWell x = new ShyWell();
        x.seed(5);
        x.deal(8);
        x.well(0, 25);
        x.well(4, 40);
        Due.text(x, "stay 3+n");
        x.run(33);
        return x;
    }

    private static long[] state(ShyWell x) {
        long[] row = new long[12 + 8 * 15 + 2];
        for (int i = 0; i < 12; i++) row[i] = x.count(i);
        for (int i = 0; i < 8 * 15; i++) row[12 + i] = x.told(i / 15, i % 15);
        for (int i = 0; i < 2; i++) row[132 + i] = x.mean(i);
        return row;
    }

    private static void nothingChanges() {
        Due.sentence("(All this is only thought, from now on, z as it is: nothing changes.)");
        ShyWell x = busy();
        long[] before = state(x);
        for (int what = 0; what < 4; what++) x.behind(300, what);
        x.fullIn(9);
        for (int c = 0; c < 8; c++) {
            x.best(c, 40, c % 2);
            x.alone(c, 300);
        }
        x.least();
        long[] after = state(x);
        for (int i = 0; i < before.length; i++) Due.is("answer " + i, after[i], before[i]);
    }

    private static void asItComesThen() {
        Due.sentence("BEHIND n MINUTES: WATER; GOT of all, together; EMPTY of all, together");
        for (int n : new int[] {1, 2, 60, 299, 300}) {
            ShyWell x = busy();
            int water = x.behind(n, 0), got = x.behind(n, 1), empty = x.behind(n, 2);
            Due.is("GOT behind " + n, x.run(n), got);
            Due.is("WATER behind " + n, x.count(3), water);
            Due.is("EMPTY behind " + n, x.count(7), empty);
        }
    }

    private static void behindNone() {
        Due.sentence("BEHIND n (0 .. 300) MINUTES");
        ShyWell x = busy();
        int stand = x.count(1);
        for (int i = 0; i < 200 && stand == 0; i++) {
            x.run(1);
            stand = x.count(1);
        }
        Due.holds("somebody stands", stand > 0);
        Due.is("behind(0, 0)", x.behind(0, 0), x.count(3));
        Due.is("behind(0, 1)", x.behind(0, 1), x.count(6));
        Due.is("behind(0, 2)", x.behind(0, 2), x.count(7));
        Due.is("behind(0, 3): none of no minutes, whoever stands now", x.behind(0, 3), 0);
    }

    private static void behindMany() {
        Due.sentence("BEHIND n (0 .. 300) MINUTES");
        ShyWell x = new ShyWell();
        x.well(0, 3);
        x.well(1, 99);
        Due.is("behind(300, 0): one more behind the 300th", x.behind(300, 0), 99);
        x.well(2, 0);
        x.well(0, 4);
        Due.is("behind(299, 0)", x.behind(299, 0), 74);
        Due.is("behind(300, 0)", x.behind(300, 0), 75);
        Due.is("behind(301, 0)", x.behind(301, 0), ShyWell.BAD);
        Due.is("behind(-1, 0)", x.behind(-1, 0), ShyWell.BAD);
    }

    private static void stoodByAtTheEnd() {
        Due.sentence("in how many of these MINUTES somebody STANDS at the end.");
        ShyWell x = new ShyWell();
        x.well(2, 0);
        x.well(1, 0);
        Due.text(x, "leave t=2");
        x.comer(2, 3, 1, 1);
        x.comer(2, 3, 1, 1);
        int[] due = {0, 0, 0, 1, 2, 3, 3, 3};
        for (int n = 0; n < due.length; n++) Due.is("behind(" + n + ", 3)", x.behind(n, 3), due[n]);
        x.run(4);
        Due.is("two stand", x.count(1), 2);
        Due.is("only these minutes", x.behind(9, 3), 1);
    }

    private static void behindTheLastMinute() {
        Due.sentence("THE MINUTE is 0 at first, 99999 at most.");
        ShyWell x = new ShyWell();
        x.well(0, 1);
        x.well(1, 99);
        for (int i = 0; i < 333; i++) x.run(300);
        x.run(94);
        x.comer(1, 0, 1, 9);
        x.comer(1, 0, 1, 9);
        x.well(2, 40);
        Due.is("five are left", x.count(2), 99994);
        Due.is("behind(5, 1)", x.behind(5, 1), 6);
        Due.is("behind(6, 1): no more than those", x.behind(6, 1), 6);
        Due.is("behind(300, 1): no more than those", x.behind(300, 1), 6);
        Due.is("best(0, 120, 1): no more than those", x.best(0, 120, 1), 3);
        x.well(2, 3);
        x.well(1, 0);
        Due.is("alone(1, 300): no more than those", x.alone(1, 300), 2);
        Due.is("run(300)", x.run(300), 3);
        Due.is("behind(300, 0): none are left", x.behind(300, 0), x.count(3));
    }

    // ---- FULL IN

    private static void fullInIsTrue() {
        Due.sentence("FULL IN for k: how many MINUTES till WATER is k or more");
        int[][] cases = {{1, 0, 1}, {1, 0, 99}, {60, 0, 1}, {60, 0, 99}, {15, 14, 1}, {15, 14, 2}, {15, 13, 1}, {7, 3, 50}};
        int[] due = {1, 99, 60, 5940, 1, 16, 2, 347};
        for (int i = 0; i < cases.length; i++) {
            ShyWell x = new ShyWell();
            x.well(1, 99);
            x.well(2, 0);
            x.well(0, cases[i][0]);
            if (cases[i][1] > 0) x.run(cases[i][1]);
            String when = "QUARTER " + cases[i][0] + ", QUIET " + cases[i][1] + ": fullIn(" + cases[i][2] + ")";
            Due.is(when, x.fullIn(cases[i][2]), due[i]);
            for (int left = due[i] - 1; left > 0; left -= 300) x.run(Math.min(left, 300));
            Due.is(when + ": not yet", x.count(3), cases[i][2] - 1);
            Due.is(when + ": in a minute", x.fullIn(cases[i][2]), 1);
            x.run(1);
            Due.is(when + ": then", x.count(3), cases[i][2]);
        }
        for (int quarter : new int[] {1, 9, 10, 11, 12}) {
            ShyWell x = new ShyWell();
            x.run(10);
            x.well(0, quarter);
            Due.is("QUIET 10, then QUARTER " + quarter, x.fullIn(4), quarter == 12 ? 2 : 1);
            Due.is("QUIET 10, then QUARTER " + quarter + ", one more", x.fullIn(5), quarter + (quarter == 12 ? 2 : 1));
        }
    }

    private static void fullInAsIfNobodyWas() {
        Due.sentence("if nobody ever left, came or stood (COMERS that STAND are not there)");
        ShyWell x = new ShyWell();
        x.well(2, 0);
        Due.text(x, "leave 1");
        x.comer(2, 59, 1, 9);
        x.comer(0, 0, 3, 9);
        x.run(2);
        Due.is("one stands", x.count(1), 1);
        Due.is("one is under way", x.told(1, WHERE), 1);
        Due.is("fullIn(1)", x.fullIn(1), 15);
        Due.is("fullIn(9)", x.fullIn(9), 135);
        Due.is("one stands yet", x.count(1), 1);
    }

    private static void fullAlready() {
        Due.sentence("0, if it is; none, if k is above MOST.");
        ShyWell x = new ShyWell();
        for (int k = 0; k <= 3; k++) Due.is("WATER 3: fullIn(" + k + ")", x.fullIn(k), 0);
        Due.is("WATER 3: fullIn(4)", x.fullIn(4), 15);
        x.well(2, 0);
        Due.is("WATER 0: fullIn(0)", x.fullIn(0), 0);
        x.well(1, 0);
        Due.is("WATER 0, MOST 0: fullIn(0)", x.fullIn(0), 0);
        x.well(2, 99);
        Due.is("WATER 99, MOST 0: it is, though it is above MOST", x.fullIn(99), 0);
    }

    private static void fullAboveMost() {
        Due.sentence("none, if k is above MOST.");
        int[][] cases = {{9, 9, 90}, {9, 10, NONE}, {9, 99, NONE}, {99, 99, 1440}, {98, 99, NONE}, {4, 4, 15}, {3, 4, NONE}, {0, 4, NONE}};
        for (int[] c : cases) {
            ShyWell x = new ShyWell();
            x.well(1, c[0]);
            Due.is("MOST " + c[0] + ": fullIn(" + c[1] + ")", x.fullIn(c[1]), c[2]);
        }
    }

    // ---- BEST HABIT

    private static void bestOfSeveral() {
        Due.sentence("A 0 .. 59 with which its GOT is greatest then; of several the least.");
        ShyWell x = new ShyWell();
        x.comer(0, 30, 1, 9);
        x.run(10);
        Due.is("only 10 and 11 are met", x.best(0, 2, 0), 10);
        Due.is("by it", x.best(0, 2, 1), 1);
        x.comer(1, 30, 1, 9);
        Due.is("GUESS leaves at once with 0", x.best(1, 1, 0), 0);
        x.run(5);
        Due.is("and with 1 to 5, too", x.best(1, 1, 0), 0);
        // With A 0 it leaves in each minute that it is home as it begins: every other one.
        x.well(2, 99);
        x.set(1, WANT, 9);
        Due.is("the more often the better", x.best(1, 16, 1), 8);
        Due.is("with A 0", x.best(1, 16, 0), 0);
    }

    private static void bestAtTheEnds() {
        Due.sentence("A 0 .. 59 with which its GOT is greatest then; of several the least.");
        ShyWell x = new ShyWell();
        x.comer(0, 30, 1, 9);
        x.run(59);
        Due.is("minute 59: A 59", x.best(0, 1, 0), 59);
        Due.is("minute 59: its GOT", x.best(0, 1, 1), x.told(0, GOT) + 1);
        Due.is("minutes 59 and 60: A 0", x.best(0, 2, 0), 0);
        x.run(1);
        Due.is("minute 60: A 0", x.best(0, 1, 0), 0);
        x.run(1);
        Due.is("minute 61: A 1", x.best(0, 1, 0), 1);
        Due.is("A as it was", x.told(0, 1), 30);
    }

    private static void bestOfNoUse() {
        Due.sentence("its GOT is greatest then; of several the least.");
        ShyWell x = new ShyWell();
        x.comer(0, 59, 1, 0);
        x.run(7);
        Due.is("WANT 0: any, so 0", x.best(0, 120, 0), 0);
        Due.is("WANT 0: GOT 0", x.best(0, 120, 1), 0);
        x.set(0, WANT, 9);
        x.well(2, 0);
        x.well(1, 0);
        Due.is("dry: any, so 0", x.best(0, 120, 0), 0);
        ShyWell y = new ShyWell();
        y.comer(0, 0, 1, 1);
        y.run(1);
        Due.is("GOT so far counts", y.best(0, 1, 1), 1);
        Due.is("none is better", y.best(0, 1, 0), 0);
    }

    private static void bestBounds() {
        Due.sentence("BEST HABIT of a COMER for n (1 .. 120) MINUTES");
        ShyWell x = new ShyWell();
        x.comer(0, 0, 1, 9);
        x.comer(0, 0, 30, 9);
        Due.is("n 1", x.best(0, 1, 1), 1);
        Due.is("n 60", x.best(0, 60, 1), 1);
        Due.is("n 61", x.best(0, 61, 1), 2);
        Due.is("n 120", x.best(0, 120, 1), 2);
        Due.is("there and not a minute sooner: 29", x.best(1, 29, 1), 0);
        Due.is("there and not a minute sooner: 30", x.best(1, 30, 1), 1);
        Due.is("n 0", x.best(0, 0, 1), ShyWell.BAD);
        Due.is("n 121", x.best(0, 121, 1), ShyWell.BAD);
    }

    // ---- ALONE

    private static void aloneByOneself() {
        Due.sentence("ALONE for n MINUTES: its GOT then, if all others had WANT 0 and were HOME");
        ShyWell x = new ShyWell();
        x.comer(1, 0, 1, 9);
        Due.is("there are no others", x.alone(0, 300), 0);
        x.well(2, 1);
        x.well(0, 60);
        Due.is("nor do they come of it", x.alone(0, 50), 0);
        x.comer(1, 0, 1, 9);
        Due.is("the first takes what there is", x.alone(0, 1), 0);
        Due.is("from the second", x.alone(1, 1), 1);
        x.run(1);
        x.well(2, 1);
        Due.is("GOT so far is in both", x.alone(0, 1), 0);
        Due.is("both on their ways back", x.alone(1, 1), 0);
        Due.is("and there again", x.alone(1, 3), 1);
        Due.is("WANT of the others as it was", x.told(0, WANT), 8);
    }

    private static void aloneAllNight() {
        Due.sentence("(from now on; WANT stays 0 for them)");
        ShyWell x = new ShyWell();
        x.well(0, 60);
        x.well(1, 0);
        x.comer(0, 0, 1, 3);
        x.comer(0, 1, 1, 3);
        for (int i = 0; i < 5; i++) x.run(280);
        x.run(38);
        x.well(2, 1);
        Due.is("minute 1438", x.count(2), 1438);
        x.set(0, WANT, 0);
        Due.is("the first wants it by day", x.behind(4, 1) - x.behind(0, 1), 1);
        Due.is("and leaves none", x.alone(1, 4), 1);
        Due.is("NEED as it was", x.told(0, 3), 3);
    }

    private static void aloneWhereverTheyWere() {
        Due.sentence("if all others had WANT 0 and were HOME");
        for (int minutes = 1; minutes < 12; minutes++) {
            ShyWell x = new ShyWell();
            x.well(2, 0);
            x.well(0, 60);
            Due.text(x, "leave t=0|t=20");
            x.comer(2, 40, 2, 9);
            x.comer(0, 0, 1, 9);
            x.set(1, WANT, 0);
            x.run(minutes);
            int where = x.told(0, WHERE), visits = x.told(0, VISITS);
            x.set(1, WANT, 9);
            x.well(2, 5);
            Due.is("one is out, or stands", where, minutes == 1 ? 1 : 2);
            int cost = where == 1 ? 0 : 1;
            Due.is("what it costs behind " + minutes, x.alone(1, 25), cost);
            Due.is("it is where it was", x.told(0, WHERE), where);
            Due.is("as often as it was", x.told(0, VISITS), visits);
        }
    }

    private static void aloneMayCost() {
        Due.sentence("less its GOT then as it is.");
        int z = 1;
        for (int i = 0; i < 100000; i++) {
            int first = next(z) >>> 8, second = next(next(z)) >>> 8;
            if (first % 100 < 50 && second % 100 >= 50) break;
            z++;
        }
        ShyWell x = new ShyWell();
        x.seed(z);
        x.well(4, 50);
        x.comer(1, 0, 1, 1);
        x.comer(1, 0, 1, 1);
        Due.is("alone it would have forgotten", x.alone(1, 1), -1);
        Due.is("z as it was", x.count(11), z);
    }

    private static void aloneBounds() {
        Due.sentence("ALONE of a COMER for n (1 .. 300) MINUTES.");
        ShyWell x = new ShyWell();
        x.well(2, 1);
        x.well(1, 0);
        x.comer(0, 0, 1, 1);
        x.comer(0, 59, 1, 9);
        Due.is("n 1", x.alone(1, 1), 0);
        Due.is("n 59", x.alone(1, 59), 0);
        Due.is("n 60", x.alone(1, 60), 1);
        Due.is("n 300", x.alone(1, 300), 1);
        Due.is("n 0", x.alone(1, 0), ShyWell.BAD);
        Due.is("n 301", x.alone(1, 301), ShyWell.BAD);
    }

    // ---- MEAN WAIT, LEAST

    private static void meanOfNone() {
        Due.sentence("in lowest terms (0 / 1, if there are none).");
        ShyWell x = new ShyWell();
        Due.is("no COMERS: above", x.mean(0), 0);
        Due.is("no COMERS: below", x.mean(1), 1);
        x.comer(0, 5, 1, 9);
        x.run(5);
        Due.is("no VISITS: above", x.mean(0), 0);
        Due.is("no VISITS: below", x.mean(1), 1);
        x.run(61);
        Due.is("two VISITS", x.told(0, VISITS), 2);
        Due.is("two VISITS, no WAITS: above", x.mean(0), 0);
        Due.is("two VISITS, no WAITS: below", x.mean(1), 1);
    }

    /** One that stays a minutes each time it comes, and comes so often. */
    private static void meanInLowestTerms() {
        Due.sentence("WAITS (how often (3) made WAITED more for anyone, in all; 0 at first) by VISITS of all, in lowest terms");
        int[][] cases = {{1, 1, 1, 1}, {2, 1, 2, 1}, {1, 2, 1, 1}, {5, 3, 5, 1}};
        for (int[] c : cases) {
            ShyWell x = dry(c[0]);
            x.run(60 * c[1]);
            Due.is("WAITS", x.count(5), c[0] * c[1]);
            Due.is("above", x.mean(0), c[2]);
            Due.is("below", x.mean(1), c[3]);
        }
        ShyWell x = dry(6);
        x.run(60);
        x.comer(0, 50, 1, 9);
        x.run(60);
        Due.is("12 WAITS by 3 VISITS: above", x.mean(0), 4);
        Due.is("12 WAITS by 3 VISITS: below", x.mean(1), 1);
        x.run(60);
        Due.is("18 WAITS by 5 VISITS: above", x.mean(0), 18);
        Due.is("18 WAITS by 5 VISITS: below", x.mean(1), 5);
        x.set(0, WANT, 0);
        x.run(60);
        Due.is("18 WAITS by 6 VISITS: above", x.mean(0), 3);
        x.run(60);
        x.run(60);
        Due.is("18 WAITS by 8 VISITS: above", x.mean(0), 9);
        Due.is("18 WAITS by 8 VISITS: below", x.mean(1), 4);
        Due.is("whoever stands counts", x.count(5), 18);
    }

    private static ShyWell dry(int stays) {
        ShyWell x = new ShyWell();
        x.well(1, 0);
        x.well(2, 0);
        x.comer(2, stays, 1, 9);
        return x;
    }

    private static void leastOfSeveral() {
        Due.sentence("LEAST: the COMER with the most EMPTY; of several the one with the least GOT, then the least.");
        ShyWell x = new ShyWell();
        for (int i = 0; i < 8; i++) x.comer(0, i, 1, 9);
        Due.is("all alike", x.least(), 0);
        x.run(3);
        Due.is("the first three GOT 1", x.least(), 3);
        x.well(1, 0);
        x.run(5);
        Due.is("the last five found it dry", x.least(), 3);
        x.run(60);
        Due.is("EMPTY of 0", x.told(0, EMPTY), 1);
        Due.is("EMPTY of 7", x.told(7, EMPTY), 2);
        Due.is("twice", x.least(), 3);
        for (int c = 3; c < 7; c++) x.set(c, WANT, 0);
        x.run(60);
        Due.is("the last one only", x.least(), 7);
        x.set(7, WANT, 0);
        x.run(60);
        Due.is("the first three have as many, and GOT more", x.told(0, EMPTY), x.told(7, EMPTY));
        Due.is("so it is the last yet", x.least(), 7);
        x.run(60);
        Due.is("one more for the first three", x.least(), 0);
        Due.is("of several the least", x.told(0, EMPTY), x.told(2, EMPTY));
    }

    // ---- EXPLAINED

    private static ShyWell withPlaces(int sort, int... places) {
        ShyWell x = new ShyWell();
        x.sheet(0, sort, places.length);
        for (int i = 0; i < places.length; i++) x.mark(0, i, places[i]);
        return x;
    }

    private static void explained(String when, ShyWell x, int quarter, int differences) {
        Due.is(when + ": the QUARTER", x.explained(0, 0), quarter);
        Due.is(when + ": the differences", x.explained(0, 1), differences);
    }

    private static void explainedByNothing() {
        Due.sentence("from places k of it that are numbers, together; of several the least.");
        explained("no places", withPlaces(0), 1, 0);
        explained("no places of floats", withPlaces(1), 1, 0);
        explained("no numbers", withPlaces(1, NONE, NONE, NONE), 1, 0);
        explained("one number", withPlaces(1, NONE, 4, NONE), 6, 0);
        int[] none = new int[24];
        java.util.Arrays.fill(none, NONE);
        none[23] = 4;
        // 230 minutes on: 58 to 60 make 3 more of it, 57 one too many again.
        explained("the last of 24", withPlaces(1, none), 58, 2);
    }

    private static void explainedLeast() {
        Due.sentence("of several the least. (WATER 10 k on");
        explained("1 to 10 and 11 to 60 differ alike: the first of those", withPlaces(0, 3, 3), 11, 0);
        explained("any", withPlaces(0, 3), 1, 0);
        explained("all alike", withPlaces(0, 50), 1, 47);
        // 4 and 5 both make 5 of it in 10 minutes, 2 more; nothing makes them differ.
        explained("4 and 5", withPlaces(0, 3, 5), 4, 0);
    }

    private static void explainedBounds() {
        Due.sentence("EXPLAINED by a SHEET: the QUARTER 1 .. 60");
        ShyWell x = withPlaces(0, 3, 13);
        x.well(1, 99);
        explained("1 only", x, 1, 0);
        x.mark(0, 1, 8);
        explained("2 only", x, 2, 0);
        ShyWell y = withPlaces(1, NONE, NONE, NONE, NONE, NONE, 3, 4);
        y.run(9);
        explained("60 only", y, 60, 0);
        y.run(1);
        // 36 to 60 make 1 more of it both 60 and 70 minutes on.
        explained("61 would be it", y, 36, 1);
        ShyWell z = withPlaces(0, 0, 1, 2, 3, 4, 5, 6, 7, 8, 9, 10, 11, 12, 13, 14, 15, 16, 17, 18, 19, 20, 21, 22, 23);
        z.well(1, 99);
        z.well(2, 0);
        explained("24 places, the last 230 minutes on", z, 10, 0);
    }

    private static void explainedWithinMost() {
        Due.sentence("WATER, and (QUIET and 10 k) / QUARTER more, MOST at most, but not less than WATER.");
        ShyWell x = withPlaces(0, 3, 9, 9);
        explained("MOST 9", x, 1, 0);
        x.well(1, 8);
        explained("MOST 8", x, 1, 2);
        x.well(1, 3);
        explained("MOST 3", x, 1, 12);
        x.well(1, 0);
        explained("MOST below WATER", x, 1, 12);
        x.well(2, 9);
        explained("WATER 9 above MOST 0", x, 1, 6);
        ShyWell y = withPlaces(0, 4);
        y.run(10);
        explained("QUIET 10, 0 minutes on", y, 6, 0);
        y.mark(0, 0, 3);
        explained("QUIET 10, none more", y, 11, 0);
        y.mark(0, 0, 99);
        explained("QUIET 10, MOST", y, 1, 90);
    }

    private static void explainedSigns() {
        Due.sentence("differs least (signs left out)");
        ShyWell x = withPlaces(0, 0, 9);
        // 3 instead of 0, and at most 9 instead of 9: the differences do not cancel out.
        explained("3 below and none above", x, 1, 3);
        x.mark(0, 1, 12);
        explained("3 below and 3 above", x, 1, 6);
        int[] lowest = new int[24];
        java.util.Arrays.fill(lowest, -99999);
        ShyWell y = withPlaces(1, lowest);
        y.well(2, 99);
        y.well(1, 99);
        explained("24 times 99 instead of -99999", y, 1, 24 * 100098);
        java.util.Arrays.fill(lowest, 99999);
        y = withPlaces(1, lowest);
        y.well(2, 0);
        y.well(1, 0);
        explained("24 times 0 instead of 99999", y, 1, 24 * 99999);
        explained("the lowest short", withPlaces(0, 32768), 1, 32771);
    }

    // ---- fine

    private static void fineWithoutText() {
        Due.sentence("(what fine gives for a COMER is told by fine(); without a TEXT: EMPTY)");
        ShyWell x = new ShyWell();
        x.well(1, 0);
        x.comer(0, 0, 1, 9);
        x.comer(0, 0, 1, 0);
        Due.is("EMPTY 0", x.fine(0), 0);
        for (int i = 0; i < 5; i++) x.run(60);
        Due.is("GOT 3, EMPTY 2", x.fine(0), 2);
        Due.is("EMPTY 0 of the other", x.fine(1), 0);
        Due.text(x, "stay 7");
        Due.is("other TEXTS do not count", x.fine(0), 2);
        Due.text(x, "fine 1000*g+e");
        Due.is("by the TEXT", x.fine(0), 3002);
        Due.is("by the TEXT, of the other", x.fine(1), 0);
        Due.text(x, "fine 0-g");
        Due.is("below 0", x.fine(0), -3);
    }
}
