import java.util.function.ToIntFunction;

/** The edges that sections 1 and 2 of the document name, and promises 1 to 10 with them: a test for each sentence. */
public final class EdgesWellTest {
    private static final int BAD = ShyWell.BAD, FULL = ShyWell.FULL;
    private static final int HOME = 0, OUT = 1, STANDS = 2, BACK = 3;
    private static final int WANT = 4, WHERE = 5, LEFT = 6, WAITED = 7, SINCE = 8, GOT = 9, EMPTY = 10, VISITS = 11, WORTH = 12, LEAVES = 13, STAYS = 14;

    public static void main(String[] args) {
        newObject();
        wellBounds();
        lastMinute();
        eightComers();
        habitBounds();
        comersHour();
        guess();
        knowing();
        shy();
        staysHeld();
        staysOfWaiting();
        worths();
        wantAboveNothing();
        forgets();
        sinceOfOthers();
        leftToNothing();
        nobodyStandsAndWater();
        atMostWantAndWater();
        staysAboveNothing();
        waitedEnough();
        standAsTheMinuteBegan();
        backAsTheMinuteBegan();
        quarterOrMore();
        belowMost();
        elseQuietIsNothing();
        theDay();
        drawsWrap();
        drawnComers();
        dealtIntoRoom();
        seeds();
        runBounds();
        kindsUnderOneAnother();
        turning();
        Due.end();
    }

    private static void told(String when, ShyWell x, int comer, int what, int due) {
        Due.is(when + ": told(" + comer + ", " + what + ")", x.told(comer, what), due);
    }

    private static int next(int z) {
        return (int) ((z * 1103515245L + 12345L) & 0xffffffffL);
    }

    /** A z whose next draw leaves this rest by 100. */
    private static int seedFor(int rest) {
        int z = 1;
        for (int i = 0; i < 100000 && (next(z) >>> 8) % 100 != rest; i++) z++;
        return z;
    }

    // ---- section 1

    private static void newObject() {
        Due.sentence("As told; no COMERS.");
        ShyWell x = new ShyWell();
        int[] counts = {0, 0, 0, 3, 0, 0, 0, 0, 0, 0, 0, 1};
        for (int i = 0; i < 12; i++) Due.is("count(" + i + ")", x.count(i), counts[i]);
        Due.is("told(0, 0)", x.told(0, 0), BAD);
        for (int s = 0; s < 4; s++) Due.is("SHEET " + s, x.pour(s), ShyWell.NOTHING);
        for (int s = 0; s < 5; s++) Due.is("SLOT " + s, x.lay(s, 0, 0), 0);
        Due.is("no IMAGE", x.back(), ShyWell.NO);
        Due.is("minutes go by without anybody", x.run(14), 0);
        Due.is("QUARTER is 15", x.count(3), 3);
        x.run(1);
        Due.is("a bucket more", x.count(3), 4);
    }

    private static void wellBounds() {
        Due.sentence("QUARTER 1 .. 60 (15 at first), MOST 0 .. 99 (9), WATER 0 .. 99 (3), BUCKET 1 .. 9 (1), FORGETS 0 .. 100 (0), QUIET (0 at first).");
        int[] first = {15, 9, 3, 1, 0}, least = {1, 0, 0, 1, 0}, most = {60, 99, 99, 9, 100};
        for (int what = 0; what < 5; what++) {
            ShyWell x = new ShyWell();
            Due.is("well(" + what + ", below the least)", x.well(what, least[what] - 1), BAD);
            Due.is("well(" + what + ", the least)", x.well(what, least[what]), first[what]);
            Due.is("well(" + what + ", above the most)", x.well(what, most[what] + 1), BAD);
            Due.is("well(" + what + ", the most)", x.well(what, most[what]), least[what]);
            Due.is("well(" + what + ", 1)", x.well(what, 1), most[what]);
        }
        Due.is("QUIET", new ShyWell().count(4), 0);
    }

    private static void lastMinute() {
        Due.sentence("THE MINUTE is 0 at first, 99999 at most.");
        ShyWell x = new ShyWell();
        Due.is("at first", x.count(2), 0);
        x.comer(1, 0, 1, 9);
        for (int i = 0; i < 333; i++) x.run(300);
        x.run(98);
        Due.is("one before the last", x.count(2), 99998);
        Due.sentence("(no more than up to 99999)");
        x.well(2, 99);
        int got = x.told(0, GOT);
        for (int i = 0; i < 4; i++) {
            x.run(1);
            Due.is("99999 at most", x.count(2), 99999);
        }
        Due.holds("at most one more visit", x.told(0, GOT) <= got + 1);
        int quiet = x.count(4), z = x.count(11), since = x.told(0, SINCE), where = x.told(0, WHERE), left = x.told(0, LEFT);
        Due.is("run(300) answers GOT of all even so", x.run(300), x.told(0, GOT));
        Due.is("QUIET stands still", x.count(4), quiet);
        Due.is("z stands still", x.count(11), z);
        told("stands still", x, 0, SINCE, since);
        told("stands still", x, 0, WHERE, where);
        told("stands still", x, 0, LEFT, left);
        Due.is("run(301) is refused even so", x.run(301), BAD);
    }

    private static void eightComers() {
        Due.sentence("COMERS, 8 at most, numbered from 0");
        ShyWell x = new ShyWell();
        for (int i = 0; i < 8; i++) Due.is("COMER " + i, x.comer(5 - i % 6, i, 1 + i, i), i);
        Due.is("the ninth", x.comer(0, 0, 1, 0), FULL);
        Due.is("eight", x.count(0), 8);
        for (int i = 0; i < 8; i++) told("each as it came", x, i, 1, i);
        Due.is("told(8, 1)", x.told(8, 1), BAD);
    }

    private static void habitBounds() {
        Due.sentence("A 0 .. 59, AWAY 1 .. 30, NEED 0 .. 9, WANT 0 .. 9 (NEED at first)");
        int[] least = {0, 0, 1, 0, 0}, most = {5, 59, 30, 9, 9};
        ShyWell x = new ShyWell();
        for (int what = 0; what < 4; what++) {
            int[] low = {0, 0, 1, 0}, high = {5, 59, 30, 9};
            low[what] = least[what] - 1;
            high[what] = most[what] + 1;
            Due.is("comer with " + what + " too small", x.comer(low[0], low[1], low[2], low[3]), BAD);
            Due.is("comer with " + what + " too large", x.comer(high[0], high[1], high[2], high[3]), BAD);
        }
        Due.is("none came", x.count(0), 0);
        Due.is("all the least", x.comer(0, 0, 1, 0), 0);
        Due.is("all the most", x.comer(5, 59, 30, 9), 1);
        told("NEED at first", x, 0, WANT, 0);
        told("NEED at first", x, 1, WANT, 9);
        for (int what = 1; what <= 4; what++) {
            Due.is("set(0, " + what + ", too small)", x.set(0, what, least[what] - 1), BAD);
            Due.is("set(0, " + what + ", too large)", x.set(0, what, most[what] + 1), BAD);
            Due.is("set(0, " + what + ", the most)", x.set(0, what, most[what]), least[what]);
            Due.is("set(0, " + what + ", the least)", x.set(0, what, least[what]), most[what]);
        }
        told("WHERE at first", x, 1, WHERE, HOME);
        for (int what = LEFT; what <= VISITS; what++) told("0 at first", x, 1, what, 0);
    }

    private static void comersHour() {
        Due.sentence("(without a TEXT: if the rest of THE MINUTE by 60 is A)");
        ShyWell x = new ShyWell();
        x.comer(0, 0, 1, 0);
        x.comer(0, 59, 1, 0);
        int[][] due = {{0, 1, 0}, {1, 0, 0}, {58, 0, 0}, {59, 0, 1}, {60, 1, 0}, {119, 0, 1}, {120, 1, 0}};
        for (int[] d : due) {
            if (d[0] > x.count(2)) x.run(d[0] - x.count(2));
            told("minute " + d[0], x, 0, LEAVES, d[1]);
            told("minute " + d[0], x, 1, LEAVES, d[2]);
        }
    }

    private static void guess() {
        Due.sentence("GUESS: if SINCE is A or more.");
        ShyWell x = new ShyWell();
        x.comer(1, 0, 1, 0);
        x.comer(1, 5, 1, 0);
        x.comer(1, 59, 1, 0);
        told("A 0, SINCE 0", x, 0, LEAVES, 1);
        told("A 5, SINCE 0", x, 1, LEAVES, 0);
        x.run(4);
        told("A 5, SINCE 4", x, 1, LEAVES, 0);
        x.run(1);
        told("A 5, SINCE 5", x, 1, LEAVES, 1);
        x.run(1);
        told("A 5, SINCE 6", x, 1, LEAVES, 1);
        x.run(52);
        told("A 59, SINCE 58", x, 2, LEAVES, 0);
        x.run(1);
        told("A 59, SINCE 59", x, 2, LEAVES, 1);
        x.well(2, 0);
        told("water or none", x, 2, LEAVES, 1);
        Due.text(x, "leave 0");
        told("leave is not asked", x, 2, LEAVES, 1);
    }

    private static void knowing() {
        Due.sentence("KNOWING: as GUESS, and if WATER is above 0.");
        ShyWell x = new ShyWell();
        x.comer(3, 2, 1, 0);
        x.run(1);
        told("SINCE 1 of 2, WATER 3", x, 0, LEAVES, 0);
        x.run(1);
        told("SINCE 2 of 2, WATER 3", x, 0, LEAVES, 1);
        x.well(2, 0);
        told("WATER 0", x, 0, LEAVES, 0);
        x.well(2, 1);
        told("WATER 1", x, 0, LEAVES, 1);
    }

    private static void shy() {
        Due.sentence("SHY: as COMER, and if nobody STANDS.");
        ShyWell x = new ShyWell();
        x.well(2, 0);
        x.comer(2, 1, 1, 1);
        x.comer(5, 2, 1, 0);
        x.comer(5, 3, 1, 0);
        x.run(2);
        told("one stands: no", x, 1, LEAVES, 0);
        Due.is("one stands", x.count(1), 1);
        x.run(1);
        Due.is("nobody stands", x.count(1), 0);
        told("nobody stands, its minute", x, 2, LEAVES, 1);
        told("nobody stands, not its minute", x, 1, LEAVES, 0);
    }

    /** What stay gives, and what that is within 0 .. 99; the last ones wrap around. */
    private static final String[] STAY_LAWS = {"0-1", "0", "1", "98", "99", "100", "9999", "0-9999", "9999*9999*9999", "8192*8192*32", "8192*8192*32-1"};
    private static final int[] STAY_HELD = {0, 0, 1, 98, 99, 99, 99, 0, 0, 0, 99};

    private static ShyWell byStay(String law, int a, int... kinds) {
        ShyWell x = new ShyWell();
        for (int kind : kinds) x.comer(kind, a, 1, 1);
        if (!law.isEmpty()) Due.is("stay " + law, Due.text(x, "stay " + law), 0);
        return x;
    }

    private static void staysHeld() {
        Due.sentence("COMER: what stay gives, held within 0 .. 99 (without a TEXT: 0).");
        for (int i = 0; i < STAY_LAWS.length; i++) {
            ShyWell x = byStay(STAY_LAWS[i], 59, 0, 1, 3, 5);
            for (int c = 0; c < 4; c++) told("stay " + STAY_LAWS[i], x, c, STAYS, STAY_HELD[i]);
        }
        for (int c = 0; c < 4; c++) told("no stay", byStay("", 59, 0, 1, 3, 5), c, STAYS, 0);
    }

    private static void staysOfWaiting() {
        Due.sentence("WAITING: as COMER, and A. STUBBORN: twice as WAITING.");
        for (int a : new int[] {0, 59}) {
            for (int i = 0; i < STAY_LAWS.length; i++) {
                ShyWell x = byStay(STAY_LAWS[i], a, 2, 4);
                told("stay " + STAY_LAWS[i] + ", A " + a, x, 0, STAYS, STAY_HELD[i] + a);
                told("stay " + STAY_LAWS[i] + ", A " + a, x, 1, STAYS, 2 * (STAY_HELD[i] + a));
            }
            told("no stay, A " + a, byStay("", a, 2, 4), 0, STAYS, a);
            told("no stay, A " + a, byStay("", a, 2, 4), 1, STAYS, 2 * a);
        }
    }

    private static void worths() {
        Due.sentence("WORTH: COMER: A. GUESS: as COMER, and 3. KNOWING: twice as GUESS. WAITING: 60 less A. STUBBORN: as WAITING, less 5. SHY: 30.");
        int[][] due = {{0, 3, 60, 6, 55, 30}, {59, 62, 1, 124, -4, 30}};
        for (int edge = 0; edge < 2; edge++) {
            ShyWell x = new ShyWell();
            for (int kind = 0; kind < 6; kind++) {
                x.comer(kind, edge * 59, 1, 1);
                told("A " + edge * 59, x, kind, WORTH, due[edge][kind]);
            }
        }
    }

    // ---- section 2

    private static void wantAboveNothing() {
        Due.sentence("one whose WANT is above 0 and that WOULD LEAVE: a draw");
        int[][] cases = {{0, 0, 0}, {1, 0, 1}, {1, 5, 0}, {0, 5, 0}};
        for (int[] c : cases) {
            ShyWell x = new ShyWell();
            x.comer(1, c[1], 2, c[0]);
            x.run(1);
            String when = "WANT " + c[0] + ", A " + c[1];
            Due.is(when + ": z", x.count(11), c[2] == 1 ? next(1) : 1);
            told(when, x, 0, WHERE, c[2] == 1 ? OUT : HOME);
            told(when, x, 0, SINCE, 1 - c[2]);
        }
    }

    private static void forgets() {
        Due.sentence("if its rest by 100 is FORGETS or more, it is OUT, LEFT is AWAY.");
        int[][] cases = {{0, 0, 1}, {0, 1, 0}, {1, 1, 1}, {50, 50, 1}, {50, 51, 0}, {50, 49, 1}, {99, 99, 1}, {99, 100, 0}, {0, 100, 0}, {99, 0, 1}};
        for (int[] c : cases) {
            ShyWell x = new ShyWell();
            x.seed(seedFor(c[0]));
            x.well(4, c[1]);
            x.comer(1, 0, 30, 1);
            x.run(1);
            String when = "rest " + c[0] + ", FORGETS " + c[1];
            told(when, x, 0, WHERE, c[2]);
            told(when, x, 0, LEFT, c[2] == 1 ? 29 : 0);
            Due.is(when + ": a draw in any case", x.count(11), next(seedFor(c[0])));
        }
    }

    private static void sinceOfOthers() {
        Due.sentence("Of all others that are HOME SINCE is 1 more.");
        ShyWell x = new ShyWell();
        x.well(4, 100);
        x.comer(1, 0, 9, 9);
        x.comer(0, 30, 9, 9);
        x.comer(1, 0, 9, 0);
        x.run(3);
        for (int c = 0; c < 3; c++) told("forgets, has time, wants nothing", x, c, SINCE, 3);
        x.well(4, 0);
        x.run(2);
        told("is OUT: as it was", x, 0, SINCE, 3);
        told("is HOME: more", x, 1, SINCE, 5);
    }

    private static void leftToNothing() {
        Due.sentence("LEFT is 1 less; if it is 0 then, it is there, and VISITS is 1 more");
        for (int away : new int[] {1, 2, 30}) {
            ShyWell x = new ShyWell();
            x.comer(0, 0, away, 1);
            if (away > 1) x.run(away - 1);
            told("AWAY " + away + ", a minute short", x, 0, VISITS, 0);
            told("AWAY " + away + ", a minute short", x, 0, WHERE, away > 1 ? OUT : HOME);
            told("AWAY " + away + ", a minute short", x, 0, LEFT, away > 1 ? 1 : 0);
            x.run(1);
            told("AWAY " + away + ", there", x, 0, VISITS, 1);
            told("AWAY " + away + ", there", x, 0, WHERE, BACK);
            told("AWAY " + away + ", there", x, 0, LEFT, away);
        }
        ShyWell x = new ShyWell();
        x.comer(0, 0, 4, 1);
        x.run(2);
        x.set(0, 2, 30);
        x.run(2);
        told("AWAY changed under way: there when it would have been", x, 0, VISITS, 1);
        told("AWAY changed under way: its way back is the new one", x, 0, LEFT, 30);
    }

    private static void nobodyStandsAndWater() {
        Due.sentence("if nobody STANDS, and WATER is above 0, it takes BUCKETS");
        int[][] cases = {{0, 0, BACK}, {1, 1, BACK}, {99, 1, BACK}};
        for (int[] c : cases) {
            ShyWell x = new ShyWell();
            x.well(2, c[0]);
            x.comer(0, 0, 1, 1);
            x.run(1);
            told("WATER " + c[0], x, 0, GOT, c[1]);
            told("WATER " + c[0], x, 0, EMPTY, 1 - c[1]);
            told("WATER " + c[0], x, 0, WHERE, c[2]);
        }
        ShyWell x = new ShyWell();
        x.well(2, 1);
        Due.text(x, "stay 5*(a>0)");
        Due.text(x, "leave t=0");
        x.comer(0, 0, 1, 1);
        x.comer(0, 1, 1, 1);
        x.comer(0, 0, 1, 1);
        x.run(1);
        told("the first takes the last bucket", x, 0, GOT, 1);
        told("the second finds it dry and stands", x, 1, WHERE, STANDS);
        told("the third does not wait", x, 2, EMPTY, 1);
        Due.text(x, "leave t=1");
        x.well(2, 9);
        x.comer(0, 0, 1, 1);
        x.run(1);
        told("full, but one stands", x, 3, GOT, 0);
        told("full, but one stands", x, 3, EMPTY, 1);
        Due.is("WATER", x.count(3), 9);
    }

    private static void atMostWantAndWater() {
        Due.sentence("at most WANT and WATER: WATER, WANT are so much less, GOT so much more");
        int[][] cases = {{1, 1, 1, 1}, {9, 9, 9, 9}, {9, 8, 9, 8}, {9, 9, 8, 8}, {8, 9, 9, 8}, {9, 1, 99, 1}, {9, 9, 1, 1}, {9, 5, 4, 4}, {9, 4, 5, 4}};
        for (int[] c : cases) {
            ShyWell x = new ShyWell();
            x.well(3, c[0]);
            x.well(2, c[2]);
            x.comer(0, 0, 1, c[1]);
            String when = "BUCKET " + c[0] + ", WANT " + c[1] + ", WATER " + c[2];
            Due.is(when, x.run(1), c[3]);
            told(when, x, 0, WANT, c[1] - c[3]);
            told(when, x, 0, GOT, c[3]);
            Due.is(when + ": count(3)", x.count(3), c[2] - c[3]);
        }
        ShyWell x = new ShyWell();
        x.comer(0, 0, 2, 1);
        x.run(1);
        x.set(0, WANT, 0);
        x.run(1);
        told("WANT 0 by then", x, 0, GOT, 0);
        told("WANT 0 by then", x, 0, EMPTY, 0);
        told("WANT 0 by then", x, 0, WHERE, BACK);
    }

    private static void staysAboveNothing() {
        Due.sentence("Else, if its STAYS is above 0, it STANDS, WAITED 0; if not, it is BACK, LEFT is AWAY, EMPTY is 1 more.");
        for (int a = 0; a < 2; a++) {
            for (int kind : new int[] {2, 4}) {
                ShyWell x = new ShyWell();
                x.well(2, 0);
                Due.text(x, "leave 1");
                x.comer(kind, a, 1, 1);
                x.run(1);
                String when = "kind " + kind + ", A " + a;
                told(when, x, 0, WHERE, a == 0 ? BACK : STANDS);
                told(when, x, 0, EMPTY, 1 - a);
                told(when, x, 0, LEFT, 1 - a);
                told(when, x, 0, WAITED, 0);
                Due.is(when + ": count(1)", x.count(1), a);
            }
        }
    }

    private static void waitedEnough() {
        Due.sentence("WAITED is 1 more; if it is STAYS or more then, it is BACK, LEFT is AWAY, EMPTY is 1 more.");
        int[][] cases = {{0, 1}, {0, 99}, {2, 158}, {4, 316}};
        for (int[] c : cases) {
            ShyWell x = new ShyWell();
            x.well(2, 0);
            x.well(1, 0);
            Due.text(x, c[1] == 1 ? "stay 1" : "stay 99");
            Due.text(x, "leave t=0");
            x.comer(c[0], 59, 30, 1);
            x.run(30);
            told("stands", x, 0, WHERE, STANDS);
            for (int left = c[1] - 1; left > 0; left -= 250) x.run(Math.min(left, 250));
            told("STAYS " + c[1] + ", one short", x, 0, WHERE, STANDS);
            told("STAYS " + c[1] + ", one short", x, 0, WAITED, c[1] - 1);
            told("STAYS " + c[1] + ", one short", x, 0, EMPTY, 0);
            x.run(1);
            told("STAYS " + c[1], x, 0, WHERE, BACK);
            told("STAYS " + c[1], x, 0, WAITED, c[1]);
            told("STAYS " + c[1], x, 0, EMPTY, 1);
            told("STAYS " + c[1], x, 0, LEFT, 30);
            Due.is("WAITS", x.count(5), c[1]);
        }
        for (String law : new String[] {"stay 2", "stay 0", "stay 0-9"}) {
            ShyWell x = new ShyWell();
            x.well(2, 0);
            Due.text(x, "stay 50");
            x.comer(0, 0, 1, 1);
            x.run(4);
            Due.text(x, law);
            told("WAITED 3, then " + law, x, 0, WHERE, STANDS);
            x.run(1);
            told("WAITED 3, then " + law, x, 0, WHERE, BACK);
            told("it waited that minute, too", x, 0, WAITED, 4);
        }
    }

    private static void standAsTheMinuteBegan() {
        Due.sentence("COMERS that did STAND as this MINUTE began, by numbers");
        ShyWell x = new ShyWell();
        x.well(2, 0);
        Due.text(x, "stay 1");
        x.comer(0, 0, 1, 1);
        x.comer(0, 1, 1, 1);
        x.run(1);
        told("came to stand now: does not wait yet", x, 0, WAITED, 0);
        Due.is("nobody waited", x.count(5), 0);
        x.run(1);
        told("waits and goes", x, 0, WHERE, BACK);
        told("finds one that stands, whoever goes then, and stands", x, 1, WHERE, STANDS);
        told("does not wait yet", x, 1, WAITED, 0);
        Due.is("one waited", x.count(5), 1);
    }

    private static void backAsTheMinuteBegan() {
        Due.sentence("COMERS that were BACK as this MINUTE began: LEFT is 1 less; if it is 0 then, it is HOME, SINCE is 0.");
        for (int away : new int[] {1, 2, 30}) {
            ShyWell x = new ShyWell();
            x.comer(1, 3, away, 9);
            x.run(3 + away);
            told("BACK only now: AWAY " + away, x, 0, LEFT, away);
            told("SINCE as it was", x, 0, SINCE, 3);
            if (away > 1) x.run(away - 1);
            told("a minute short: AWAY " + away, x, 0, WHERE, BACK);
            told("a minute short: AWAY " + away, x, 0, LEFT, 1);
            x.run(1);
            told("HOME: AWAY " + away, x, 0, WHERE, HOME);
            told("HOME: AWAY " + away, x, 0, LEFT, 0);
            told("HOME: AWAY " + away, x, 0, SINCE, 0);
            x.run(1);
            told("a minute at HOME", x, 0, SINCE, 1);
        }
    }

    private static void counts(String when, ShyWell x, int water, int quiet) {
        Due.is(when + ": WATER", x.count(3), water);
        Due.is(when + ": QUIET", x.count(4), quiet);
    }

    private static void quarterOrMore() {
        Due.sentence("QUIET is 1 more; if it is QUARTER or more, it is 0, and WATER is 1 more, if it is below MOST.");
        for (int quarter : new int[] {1, 2, 60}) {
            ShyWell x = new ShyWell();
            x.well(0, quarter);
            if (quarter > 1) x.run(quarter - 1);
            counts("QUARTER " + quarter + ", a minute short", x, 3, quarter - 1);
            x.run(1);
            counts("QUARTER " + quarter, x, 4, 0);
            x.run(quarter);
            counts("QUARTER " + quarter + " again", x, 5, 0);
        }
        for (int quarter : new int[] {1, 10, 11}) {
            ShyWell x = new ShyWell();
            x.run(10);
            x.well(0, quarter);
            x.run(1);
            counts("QUIET 10, then QUARTER " + quarter, x, 4, 0);
        }
        ShyWell x = new ShyWell();
        x.run(10);
        x.well(0, 12);
        x.run(1);
        counts("QUIET 10, then QUARTER 12", x, 3, 11);
    }

    private static void belowMost() {
        Due.sentence("and WATER is 1 more, if it is below MOST.");
        int[][] cases = {{0, 0, 0}, {0, 1, 0}, {9, 8, 9}, {9, 9, 9}, {9, 10, 10}, {99, 98, 99}, {99, 99, 99}, {0, 99, 99}};
        for (int[] c : cases) {
            ShyWell x = new ShyWell();
            x.well(0, 2);
            x.well(1, c[0]);
            x.well(2, c[1]);
            x.run(2);
            counts("MOST " + c[0] + ", WATER " + c[1], x, Math.max(c[1], c[2]), 0);
        }
    }

    private static void elseQuietIsNothing() {
        Due.sentence("If nobody STANDS then, and nobody was there in (2)");
        ShyWell x = new ShyWell();
        x.comer(2, 5, 1, 3);
        x.comer(0, 9, 1, 3);
        x.well(2, 0);
        Due.text(x, "stay 0-a");
        x.run(5);
        counts("quiet so far", x, 0, 5);
        Due.sentence("Else QUIET is 0.");
        x.run(1);
        counts("one came and stands", x, 0, 0);
        x.run(3);
        counts("it stands", x, 0, 0);
        Due.is("it stands", x.count(1), 1);
        x.run(1);
        counts("it stands, another was there", x, 0, 0);
        x.run(1);
        Due.is("it went", x.count(1), 0);
        counts("the minute in which it goes is quiet", x, 0, 1);
        x.run(13);
        counts("the bucket counts from there", x, 0, 14);
        x.run(1);
        counts("the bucket", x, 1, 0);
        ShyWell y = new ShyWell();
        y.well(0, 1);
        y.comer(0, 2, 1, 1);
        y.run(2);
        counts("a bucket each minute", y, 5, 0);
        y.run(1);
        counts("none where one was there", y, 4, 0);
    }

    private static void theDay() {
        Due.sentence("if its rest by 1440 is 0 then, WANT of each is NEED.");
        ShyWell x = new ShyWell();
        x.comer(0, 0, 1, 0);
        x.comer(0, 1, 1, 0);
        x.set(0, 3, 9);
        x.set(1, 3, 4);
        for (int i = 0; i < 4; i++) x.run(300);
        x.run(239);
        told("minute 1439", x, 0, WANT, 0);
        told("minute 1439", x, 1, WANT, 0);
        x.run(1);
        told("minute 1440", x, 0, WANT, 9);
        told("minute 1440", x, 1, WANT, 4);
        x.set(0, WANT, 1);
        x.set(0, 3, 0);
        x.set(1, 3, 0);
        x.well(4, 100);
        for (int i = 0; i < 4; i++) x.run(300);
        x.run(239);
        told("minute 2879", x, 0, WANT, 1);
        x.run(1);
        told("minute 2880", x, 0, WANT, 0);
        told("minute 2880", x, 1, WANT, 0);
        for (int i = 0; i < 4; i++) x.run(300);
        x.run(239);
        for (int c = 2; c < 8; c++) x.comer(0, 30, 1, c);
        for (int c = 0; c < 8; c++) {
            x.set(c, 3, c + 1);
            told("minute 4319", x, c, WANT, c < 2 ? 0 : c);
        }
        x.run(1);
        for (int c = 0; c < 8; c++) told("minute 4320, each of eight", x, c, WANT, c + 1);
    }

    // ---- draws, and the calls that make them

    private static void drawsWrap() {
        Due.sentence("z becomes z * 1103515245 + 12345 (an int); it gives z >>> 8.");
        for (int seed : new int[] {0, 1, -1, Integer.MAX_VALUE, Integer.MIN_VALUE, 0x7ffffff, -715827883}) {
            ShyWell x = new ShyWell();
            x.seed(seed);
            x.comer(1, 0, 1, 1);
            x.run(1);
            Due.is("z behind " + seed, x.count(11), next(seed));
        }
        int below = 0;
        for (int i = 1; next(below) >= 0; i++) below = i;
        ShyWell x = new ShyWell();
        x.seed(below);
        x.deal(1);
        Due.holds("z below 0 gives no rest below 0", next(below) < 0 && x.told(0, 0) >= 0);
        told("KIND by the sign left out", x, 0, 0, (int) (((next(below) & 0xffffffffL) >> 8) % 6));
    }

    private static void drawnComers() {
        Due.sentence("KIND the rest of a draw by 6, A that of one more by 60, AWAY 1 and that of one more by 30, NEED that of one more by 10.");
        int[] by = {6, 60, 30, 10}, plus = {0, 0, 1, 0};
        int[] least = {99, 99, 99, 99}, most = {-1, -1, -1, -1};
        for (int seed = 0; seed < 300; seed++) {
            ShyWell x = new ShyWell();
            x.seed(seed * 77777);
            int z = seed * 77777;
            x.deal(1);
            for (int what = 0; what < 4; what++) {
                z = next(z);
                int due = plus[what] + (z >>> 8) % by[what];
                told("seed " + seed, x, 0, what, due);
                least[what] = Math.min(least[what], due);
                most[what] = Math.max(most[what], due);
            }
            told("WANT is NEED", x, 0, WANT, x.told(0, 3));
        }
        for (int what = 0; what < 4; what++) {
            Due.is("the least was drawn: " + what, least[what], plus[what]);
            Due.is("the most was drawn: " + what, most[what], plus[what] + by[what] - 1);
        }
    }

    private static void dealtIntoRoom() {
        Due.sentence("COMERS are drawn, n (1 .. 8) of them, as many as there is room for (no draws for others): how many came.");
        for (int there = 0; there <= 8; there++) {
            for (int n : new int[] {1, 8}) {
                ShyWell x = new ShyWell();
                for (int i = 0; i < there; i++) x.comer(0, 7, 7, 7);
                int came = Math.min(n, 8 - there), z = 1;
                Due.is("deal(" + n + ") behind " + there, x.deal(n), came);
                Due.is("COMERS then", x.count(0), there + came);
                for (int i = 0; i < 4 * came; i++) z = next(z);
                Due.is("draws behind " + there, x.count(11), z);
                if (there > 0) told("who was there stays", x, there - 1, 1, 7);
            }
        }
    }

    private static void seeds() {
        Due.sentence("z becomes v: what it was.");
        ShyWell x = new ShyWell();
        int was = 1;
        for (int v : new int[] {0, -1, Integer.MAX_VALUE, Integer.MIN_VALUE, ShyWell.BAD, 1}) {
            Due.is("seed(" + v + ")", x.seed(v), was);
            Due.is("z", x.count(11), v);
            was = v;
        }
    }

    private static void runBounds() {
        Due.sentence("n (1 .. 300) MINUTES go by");
        ShyWell x = new ShyWell();
        for (int n : new int[] {0, -1, 301}) Due.is("run(" + n + ")", x.run(n), BAD);
        Due.is("none went by", x.count(2), 0);
        Due.is("run(1)", x.run(1), 0);
        Due.is("one went by", x.count(2), 1);
        Due.is("run(300)", x.run(300), 0);
        Due.is("300 more", x.count(2), 301);
    }

    private static void kindsUnderOneAnother() {
        Due.sentence("0 COMER; 1 GUESS, 2 WAITING, 5 SHY, under COMER; 3 KNOWING, under GUESS; 4 STUBBORN, under WAITING (all are COMERS).");
        String[] under = {"0", "01", "02", "013", "024", "05"};
        ToIntFunction<int[]> due = p -> under[p[0]].indexOf('0' + p[1]) >= 0 ? p[0] : ShyWell.KIND;
        ShyWell x = new ShyWell();
        for (int kind = 0; kind < 6; kind++) x.comer(kind, kind, 1, 1);
        for (int c = 0; c < 6; c++) {
            for (int k = 0; k < 6; k++) Due.is("as(" + c + ", " + k + ")", x.as(c, k), due.applyAsInt(new int[] {c, k}));
        }
    }

    private static void turning() {
        Due.sentence("A COMER is of another KIND from now on: what it was.");
        ShyWell x = new ShyWell();
        x.comer(0, 9, 1, 1);
        int was = 0;
        for (int kind : new int[] {5, 5, 4, 3, 2, 1, 0}) {
            Due.is("turns(0, " + kind + ")", x.turns(0, kind), was);
            told("KIND", x, 0, 0, kind);
            was = kind;
        }
    }
}
