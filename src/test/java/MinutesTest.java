/** Promises 10 to 17: minutes, what is thought of them, and what they came to. */
public final class MinutesTest {
    private static final int BAD = ShyWell.BAD, NONE = ShyWell.NONE;

    public static void main(String[] args) {
        thereAndBack();
        sameMinute();
        forgetting();
        buckets();
        byNumbers();
        standing();
        standersByNumbers();
        wantingNothing();
        filling();
        theDay();
        runBounds();
        theLastMinute();
        behind();
        fullIn();
        best();
        alone();
        mean();
        least();
        fine();
        fullHouse();
        Due.end();
    }

    private static void state(String when, ShyWell x, int comer, int... due) {
        for (int i = 0; i < due.length; i++) Due.is(when + ": told(" + comer + ", " + (4 + i) + ")", x.told(comer, 4 + i), due[i]);
    }

    private static void counts(String when, ShyWell x, int... due) {
        for (int i = 0; i < due.length; i++) Due.is(when + ": count(" + (1 + i) + ")", x.count(1 + i), due[i]);
    }

    /** WANT, WHERE, LEFT, WAITED, SINCE, GOT, EMPTY, VISITS minute by minute; counts 1 to 7 beside them. */
    private static void thereAndBack() {
        ShyWell x = new ShyWell();
        x.comer(0, 1, 2, 2);
        Due.is("run(1)", x.run(1), 0);
        state("not yet", x, 0, 2, 0, 0, 0, 1, 0, 0, 0);
        counts("not yet", x, 0, 1, 3, 1, 0, 0, 0);
        Due.is("no draw without leaving", x.count(11), 1);
        x.run(1);
        state("on the way", x, 0, 2, 1, 1, 0, 1, 0, 0, 0);
        counts("on the way", x, 0, 2, 3, 2, 0, 0, 0);
        Due.is("one draw", x.count(11), 1103515245 + 12345);
        Due.is("run answers GOT of all", x.run(1), 1);
        state("there", x, 0, 1, 3, 2, 0, 1, 1, 0, 1);
        counts("there", x, 0, 3, 2, 0, 0, 1, 0);
        x.run(1);
        state("on the way back", x, 0, 1, 3, 1, 0, 1, 1, 0, 1);
        x.run(1);
        state("home", x, 0, 1, 0, 0, 0, 0, 1, 0, 1);
        counts("home", x, 0, 5, 2, 2, 0, 1, 0);
        x.run(1);
        state("at home", x, 0, 1, 0, 0, 0, 1, 1, 0, 1);
        x.run(60);
        state("an hour on", x, 0, 0, 0, 0, 0, 1, 2, 0, 2);
    }

    private static void sameMinute() {
        ShyWell x = new ShyWell();
        x.comer(0, 0, 1, 2);
        x.run(1);
        state("leaves and is there", x, 0, 1, 3, 1, 0, 0, 1, 0, 1);
        x.run(1);
        state("home", x, 0, 1, 0, 0, 0, 0, 1, 0, 1);
    }

    private static void forgetting() {
        ShyWell x = new ShyWell();
        x.comer(1, 0, 1, 9);
        x.well(4, 100);
        x.run(3);
        state("forgets always", x, 0, 9, 0, 0, 0, 3, 0, 0, 0);
        int z = 1;
        for (int i = 0; i < 3; i++) z = z * 1103515245 + 12345;
        Due.is("a draw for each", x.count(11), z);
        for (int forgets : new int[] {53, 54, 55}) {
            ShyWell y = new ShyWell();
            y.comer(1, 0, 3, 9);
            // The first draw of z 1 leaves a rest by 100 of 54.
            Due.is("the first draw's rest", (1103527590 >>> 8) % 100, 54);
            y.well(4, forgets);
            y.run(1);
            Due.is("FORGETS " + forgets, y.told(0, 5), forgets <= 54 ? 1 : 0);
        }
    }

    private static void buckets() {
        int[][] cases = {{3, 9, 50, 3}, {9, 4, 50, 4}, {9, 9, 2, 2}, {1, 9, 50, 1}};
        for (int[] c : cases) {
            ShyWell x = new ShyWell();
            x.well(3, c[0]);
            x.well(2, c[2]);
            x.comer(0, 0, 1, c[1]);
            Due.is("taken", x.run(1), c[3]);
            Due.is("WANT", x.told(0, 4), c[1] - c[3]);
            Due.is("WATER", x.count(3), c[2] - c[3]);
        }
    }

    private static void byNumbers() {
        ShyWell x = new ShyWell();
        x.well(2, 1);
        x.comer(0, 0, 1, 1);
        x.comer(0, 0, 1, 1);
        x.run(1);
        Due.is("the first finds water", x.told(0, 9), 1);
        Due.is("the second finds none", x.told(1, 9), 0);
        Due.is("it goes back empty", x.told(1, 10), 1);
        Due.is("it was there", x.told(1, 11), 1);
        Due.is("it is back", x.told(1, 5), 3);
        Due.is("EMPTY of all", x.count(7), 1);
    }

    private static void standing() {
        ShyWell x = new ShyWell();
        x.well(0, 1);
        x.well(2, 0);
        Due.text(x, "leave 1");
        x.comer(2, 2, 1, 5);
        x.run(1);
        state("stands", x, 0, 5, 2, 0, 0, 0, 0, 0, 1);
        counts("stands", x, 1, 1, 0, 0, 0, 0, 0);
        x.well(2, 4);
        x.comer(0, 0, 1, 5);
        x.run(1);
        state("waits on, whatever water there is", x, 0, 5, 2, 0, 1, 0, 0, 0, 1);
        state("full, but stood by", x, 1, 5, 3, 1, 0, 0, 0, 1, 1);
        counts("nothing fills", x, 1, 2, 4, 0, 1, 0, 1);
        x.set(1, 4, 0);
        x.run(1);
        state("has waited enough", x, 0, 5, 3, 1, 2, 0, 0, 1, 1);
        state("home", x, 1, 0, 0, 0, 0, 0, 0, 1, 1);
        counts("quiet at once", x, 0, 3, 5, 0, 2, 0, 2);
        x.run(1);
        state("home, WAITED as it was", x, 0, 5, 0, 0, 2, 0, 0, 1, 1);
        x.run(1);
        state("there again", x, 0, 4, 3, 1, 2, 0, 1, 1, 2);
        counts("taken", x, 0, 5, 5, 0, 2, 1, 2);
        waitedBeginsAnew();
    }

    private static void waitedBeginsAnew() {
        ShyWell x = new ShyWell();
        x.well(1, 0);
        x.well(2, 0);
        Due.text(x, "leave 1");
        x.comer(2, 3, 1, 5);
        x.run(4);
        state("back from its first stand", x, 0, 5, 3, 1, 3, 0, 0, 1, 1);
        x.run(2);
        state("stands again", x, 0, 5, 2, 0, 0, 0, 0, 1, 2);
    }

    private static void standersByNumbers() {
        ShyWell x = new ShyWell();
        x.well(2, 0);
        Due.text(x, "leave t=0");
        Due.text(x, "stay 2+9*(n<2)");
        x.comer(0, 0, 1, 1);
        x.comer(0, 0, 1, 1);
        x.run(2);
        Due.is("both stand", x.count(1), 2);
        x.run(1);
        Due.is("the first goes, for two stood", x.told(0, 5), 3);
        Due.is("the second stays, for one stands", x.told(1, 5), 2);
        Due.is("all waits", x.count(5), 4);
    }

    private static void wantingNothing() {
        ShyWell x = new ShyWell();
        x.comer(0, 0, 2, 0);
        x.run(1);
        state("stays home", x, 0, 0, 0, 0, 0, 1, 0, 0, 0);
        Due.is("no draw", x.count(11), 1);
        ShyWell y = new ShyWell();
        y.comer(0, 0, 2, 4);
        y.run(1);
        y.set(0, 4, 0);
        y.set(0, 2, 7);
        y.run(1);
        state("takes nothing, AWAY as it is then", y, 0, 0, 3, 7, 0, 0, 0, 0, 1);
        counts("somebody was there", y, 0, 2, 3, 0, 0, 0, 0);
    }

    private static void filling() {
        ShyWell x = new ShyWell();
        x.well(0, 4);
        x.well(1, 4);
        x.run(3);
        counts("three quiet minutes", x, 0, 3, 3, 3);
        x.run(1);
        counts("a bucket more", x, 0, 4, 4, 0);
        x.run(4);
        counts("MOST", x, 0, 8, 4, 0);
        x.well(2, 50);
        x.run(5);
        counts("above MOST it stays", x, 0, 13, 50, 1);
        x.well(0, 9);
        x.well(1, 99);
        x.run(6);
        x.well(0, 2);
        x.run(1);
        counts("QUIET above QUARTER gives one bucket", x, 0, 20, 51, 0);
        ShyWell y = new ShyWell();
        y.comer(0, 10, 1, 9);
        y.run(10);
        counts("ahead of the visit", y, 0, 10, 3, 10);
        y.run(1);
        counts("a visit ends the quiet", y, 0, 11, 2, 0);
    }

    private static void theDay() {
        ShyWell x = new ShyWell();
        x.well(2, 99);
        x.comer(0, 0, 1, 3);
        x.comer(0, 59, 1, 5);
        x.set(0, 3, 7);
        for (int i = 0; i < 4; i++) x.run(300);
        x.run(239);
        Due.is("wants nothing more", x.told(0, 4), 0);
        Due.is("minute 1439", x.count(2), 1439);
        x.run(1);
        Due.is("a new day, a new WANT", x.told(0, 4), 7);
        Due.is("even for what was just taken", x.told(1, 4), 5);
        x.set(0, 4, 2);
        x.run(1);
        Due.is("only as the day begins", x.told(0, 4), 1);
    }

    private static void runBounds() {
        ShyWell x = new ShyWell();
        for (int n : new int[] {0, -1, 301, Integer.MIN_VALUE, Integer.MAX_VALUE}) Due.is("run(" + n + ")", x.run(n), BAD);
        Due.is("refused: no minute went by", x.count(2), 0);
        Due.is("run(300)", x.run(300), 0);
        Due.is("they did", x.count(2), 300);
    }

    private static void theLastMinute() {
        ShyWell x = new ShyWell();
        x.well(0, 60);
        x.well(1, 99);
        x.comer(1, 0, 2, 9);
        for (int i = 0; i < 333; i++) x.run(300);
        x.run(90);
        Due.is("nine are left", x.count(2), 99990);
        x.keep();
        int water = x.behind(9, 0), got = x.behind(9, 1), stood = x.behind(9, 3);
        Due.is("no more is thought", x.behind(300, 0), water);
        Due.is("no more is got", x.behind(300, 1), got);
        Due.is("no more is stood by", x.behind(300, 3), stood);
        Due.is("run(300)", x.run(300), got);
        Due.is("99999 at most", x.count(2), 99999);
        int z = x.count(11), quiet = x.count(4);
        Due.is("none is left", x.run(1), got);
        Due.is("nothing goes on", x.count(11), z);
        Due.is("not even the quiet", x.count(4), quiet);
        x.keep();
        Due.is("no minutes, no numbers", x.check(30), 0);
        x.tell(x.count(3));
        Due.is("one too many", x.check(30), 1);
    }

    private static void behind() {
        ShyWell x = new ShyWell();
        x.well(2, 0);
        x.well(0, 4);
        x.comer(2, 3, 1, 9);
        x.comer(0, 10, 1, 9);
        int[][] due = {{0, 0, 0, 0}, {0, 0, 0, 1}, {0, 0, 1, 3}, {1, 0, 1, 3}, {0, 1, 1, 3}};
        int[] minutes = {0, 4, 7, 10, 11};
        for (int i = 0; i < minutes.length; i++) {
            for (int what = 0; what < 4; what++) Due.is("behind(" + minutes[i] + ", " + what + ")", x.behind(minutes[i], what), due[i][what]);
        }
        counts("only thought", x, 0, 0, 0, 0, 0, 0, 0);
        Due.is("z as it was", x.count(11), 1);
        state("the comer as it was", x, 0, 9, 0, 0, 0, 0, 0, 0, 0);
        x.run(7);
        Due.is("as it was thought", x.count(7), 1);
        Due.is("EMPTY so far counts", x.behind(0, 2), 1);
        Due.is("minutes so far do not", x.behind(1, 3), 0);
        for (int n : new int[] {-1, 301}) Due.is("behind(" + n + ", 0)", x.behind(n, 0), BAD);
        for (int w : new int[] {-1, 4}) Due.is("behind(1, " + w + ")", x.behind(1, w), BAD);
    }

    private static void fullIn() {
        ShyWell x = new ShyWell();
        int[][] due = {{0, 0}, {3, 0}, {4, 15}, {5, 30}, {9, 90}, {10, NONE}, {99, NONE}, {-1, BAD}, {100, BAD}};
        for (int[] d : due) Due.is("fullIn(" + d[0] + ")", x.fullIn(d[0]), d[1]);
        x.run(14);
        Due.is("the quiet so far counts", x.fullIn(4), 1);
        Due.is("and then whole quarters", x.fullIn(6), 31);
        x.well(0, 5);
        Due.is("a QUARTER below QUIET", x.fullIn(4), 1);
        Due.is("and then the new one", x.fullIn(5), 6);
        x.well(2, 20);
        Due.is("it is there, above MOST", x.fullIn(20), 0);
        Due.is("it will not be", x.fullIn(21), NONE);
        ShyWell y = new ShyWell();
        y.well(2, 0);
        y.well(1, 0);
        Due.is("MOST 0", y.fullIn(1), NONE);
        y.well(1, 1);
        y.comer(2, 0, 1, 9);
        y.set(0, 1, 9);
        Due.text(y, "leave 1");
        y.run(1);
        Due.is("one stands", y.count(1), 1);
        Due.is("as if it did not", y.fullIn(1), 15);
    }

    private static void best() {
        ShyWell x = new ShyWell();
        x.well(2, 9);
        x.comer(0, 30, 1, 9);
        Due.is("of several the least", x.best(0, 5, 0), 0);
        Due.is("its GOT", x.best(0, 5, 1), 1);
        x.run(3);
        Due.is("from now on", x.best(0, 5, 0), 3);
        Due.is("A as it was", x.told(0, 1), 30);
        x.set(0, 1, 3);
        x.comer(0, 0, 1, 9);
        x.well(0, 5);
        x.well(3, 9);
        x.well(2, 9);
        // The other takes all in minute 3; buckets come behind minutes 8, 13, 18 and, too late, 23.
        Due.is("late enough behind the other", x.best(1, 20, 0), 19);
        Due.is("what it finds then", x.best(1, 20, 1), 3);
        x.run(1);
        Due.is("the other took all", x.told(0, 9), 9);
        Due.is("none is better: 0", x.best(0, 120, 0), 0);
        Due.is("GOT so far counts", x.best(0, 120, 1), 9);
        Due.is("n may be 1", x.best(1, 1, 1), 0);
        x.run(54);
        x.well(2, 9);
        Due.is("minute 58", x.count(2), 58);
        Due.is("of 58 and 59 the least", x.best(1, 2, 0), 58);
        x.run(1);
        Due.is("A may be 59", x.best(1, 1, 0), 59);
        Due.is("and is got by", x.best(1, 1, 1), 9);
        for (int c : new int[] {-1, 2, 8}) Due.is("best(" + c + ", 1, 0)", x.best(c, 1, 0), BAD);
        for (int n : new int[] {0, -1, 121}) Due.is("best(0, " + n + ", 0)", x.best(0, n, 0), BAD);
        for (int w : new int[] {-1, 2}) Due.is("best(0, 1, " + w + ")", x.best(0, 1, w), BAD);
    }

    private static void alone() {
        ShyWell x = new ShyWell();
        x.well(0, 60);
        x.well(2, 1);
        x.comer(0, 0, 1, 1);
        x.comer(0, 0, 1, 1);
        Due.is("nobody is ahead of the first", x.alone(0, 30), 0);
        Due.is("the first is ahead of the second", x.alone(1, 30), 1);
        Due.is("the others as they were", x.told(0, 4), 1);
        for (int i = 0; i < 5; i++) x.run(287);
        x.well(1, 1);
        Due.is("minute 1435", x.count(2), 1435);
        x.set(1, 4, 1);
        x.well(2, 1);
        Due.is("the others' WANT stays 0 by night", x.alone(1, 6), 1);
        ShyWell y = new ShyWell();
        Due.text(y, "leave t<1|t>20");
        y.comer(2, 59, 1, 1);
        y.comer(0, 0, 1, 1);
        y.well(2, 0);
        y.set(1, 4, 0);
        y.run(1);
        Due.is("one stands", y.count(1), 1);
        y.set(1, 4, 1);
        Due.is("gone home, it lets the well fill", y.alone(1, 40), 1);
        Due.is("it stands yet", y.count(1), 1);
        Due.is("n may be 1", y.alone(1, 1), 0);
        for (int c : new int[] {-1, 2, 8}) Due.is("alone(" + c + ", 1)", y.alone(c, 1), BAD);
        for (int n : new int[] {0, -1, 301}) Due.is("alone(0, " + n + ")", y.alone(0, n), BAD);
    }

    private static void mean() {
        ShyWell x = new ShyWell();
        Due.is("none: above", x.mean(0), 0);
        Due.is("none: below", x.mean(1), 1);
        x.well(0, 60);
        x.comer(0, 0, 1, 9);
        x.run(2);
        Due.is("no waits: above", x.mean(0), 0);
        Due.is("no waits: below", x.mean(1), 1);
        x.well(2, 0);
        x.run(60);
        x.comer(2, 3, 1, 9);
        x.run(6);
        Due.is("three waits", x.count(5), 3);
        Due.is("in lowest terms: above", x.mean(0), 1);
        Due.is("in lowest terms: below", x.mean(1), 1);
        x.run(60);
        Due.is("six waits", x.count(5), 6);
        Due.is("six by five: above", x.mean(0), 6);
        Due.is("six by five: below", x.mean(1), 5);
        for (int p : new int[] {-1, 2}) Due.is("mean(" + p + ")", x.mean(p), BAD);
        ShyWell y = new ShyWell();
        y.well(2, 0);
        y.comer(2, 0, 1, 1);
        y.set(0, 1, 0);
        Due.text(y, "stay 4");
        y.run(5);
        Due.is("four by one visit: above", y.mean(0), 4);
        Due.is("four by one visit: below", y.mean(1), 1);
    }

    /** Eight of them, so that whoever looks beyond the last one finds nobody. */
    private static void fullHouse() {
        ShyWell x = new ShyWell();
        x.seed(3);
        x.deal(8);
        x.run(300);
        x.run(300);
        int got = 0, empty = 0, visits = 0;
        for (int c = 0; c < 8; c++) {
            got += x.told(c, 9);
            empty += x.told(c, 10);
            visits += x.told(c, 11);
        }
        Due.is("GOT of all", x.count(6), got);
        Due.is("EMPTY of all", x.count(7), empty);
        Due.holds("they came", visits > 8);
        Due.is("the mean", x.mean(0) * visits, x.mean(1) * x.count(5));
        for (int i = 0; i < 3; i++) x.run(280);
        Due.is("a day", x.count(2), 1440);
        for (int c = 0; c < 8; c++) Due.is("WANT of " + c, x.told(c, 4), x.told(c, 3));
        Due.holds("somebody fared worst", x.least() >= 0);
        for (int c = 0; c < 8; c++) Due.holds("what the others cost " + c, x.alone(c, 300) > -10 && x.best(c, 9, 1) >= 0);
        x.keep();
        Due.is("all are kept", x.back(), 8);
        x.sheet(0, 0, 24);
        for (int i = 0; i < 24; i++) x.mark(0, i, 10);
        x.pour(0);
        for (int c = 0; c < 8; c++) Due.is("NEED of " + c, x.told(c, 3), 9);
    }

    private static void least() {
        ShyWell x = new ShyWell();
        Due.is("no comers", x.least(), NONE);
        x.well(0, 60);
        x.comer(0, 0, 1, 9);
        x.comer(0, 1, 1, 9);
        x.comer(0, 2, 1, 0);
        Due.is("of several the least", x.least(), 0);
        x.run(1);
        Due.is("the least GOT", x.least(), 1);
        x.run(2);
        Due.is("one GOT nothing", x.least(), 2);
        x.well(2, 0);
        x.run(58);
        Due.is("the most EMPTY, though it GOT more", x.least(), 0);
        x.run(1);
        Due.is("two with as much EMPTY", x.count(7), 2);
        Due.is("and as much GOT", x.least(), 0);
        x.well(2, 5);
        x.run(59);
        Due.is("the first GOT more", x.told(0, 9), 2);
        Due.is("so the other is it", x.least(), 1);
    }

    private static void fine() {
        ShyWell x = new ShyWell();
        x.comer(0, 0, 1, 9);
        x.comer(0, 0, 1, 9);
        x.well(2, 2);
        x.well(3, 2);
        x.run(1);
        Due.is("without a text EMPTY: 0", x.fine(0), 0);
        Due.is("without a text EMPTY: 1", x.fine(1), 1);
        Due.text(x, "fine 10*e-3*g");
        Due.is("by the text: 0", x.fine(0), -6);
        Due.is("by the text: 1", x.fine(1), 10);
        for (int c : new int[] {-1, 2, 8}) Due.is("fine(" + c + ")", x.fine(c), BAD);
    }
}
