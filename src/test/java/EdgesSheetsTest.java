/** The edges that section 5 of the document names, and promises 23 to 36 with them: a test for each sentence. */
public final class EdgesSheetsTest {
    private static final int BAD = ShyWell.BAD, NO = ShyWell.NO, FULL = ShyWell.FULL, NONE = ShyWell.NONE;
    private static final int NOTHING = ShyWell.NOTHING, KIND = ShyWell.KIND, INDEX = ShyWell.INDEX, SIZE = ShyWell.SIZE;
    private static final int LOW = Integer.MIN_VALUE, HIGH = Integer.MAX_VALUE;

    public static void main(String[] args) {
        missingAtFirst();
        sizes();
        allNothingAgain();
        missingAgain();
        lowestBits();
        floatBounds();
        noNumber();
        pourHolds();
        pourBeyond();
        pourCounts();
        copyAll();
        copyNone();
        copyAsTheyWere();
        copyOneSort();
        slotsAtFirst();
        comerForGood();
        sheetOfItsOwn();
        anyNumber();
        askedAsAKind();
        itemBounds();
        restBy();
        sixtyNumbers();
        checkOfNone();
        checkFirstWrong();
        checkMissing();
        checkTooMany();
        checkThirty();
        checkTheLastMinute();
        keepNoneAndAll();
        backAgainAndAgain();
        backWholly();
        begunAnew();
        outsideTheImage();
        countBounds();
        Due.end();
    }

    private static ShyWell with(int sort, int... places) {
        ShyWell x = new ShyWell();
        Due.is("sheet(0, " + sort + ", " + places.length + ")", x.sheet(0, sort, places.length), places.length);
        for (int i = 0; i < places.length; i++) Due.is("mark(0, " + i + ", " + places[i] + ")", x.mark(0, i, places[i]), 1);
        return x;
    }

    /** What stands in a SHEET, and that it ends there; SLOT 4 is used for it. */
    private static void places(String when, ShyWell x, int sheet, int... due) {
        x.lay(4, 2, sheet);
        Due.is(when + ": place -1", x.item(4, -1), INDEX);
        for (int i = 0; i < due.length; i++) Due.is(when + ": place " + i, x.item(4, i), due[i]);
        Due.is(when + ": place " + due.length, x.item(4, due.length), INDEX);
    }

    // ---- sheets

    private static void missingAtFirst() {
        Due.sentence("SHEETS 0 .. 3 are rows of shorts (sort 0) or floats (1; whole numbers), with 0 to 24 places, or MISSING (at first).");
        ShyWell x = new ShyWell();
        for (int s = 0; s < 4; s++) {
            Due.is("mark(" + s + ", 0, 0)", x.mark(s, 0, 0), NOTHING);
            Due.is("pour(" + s + ")", x.pour(s), NOTHING);
            Due.is("explained(" + s + ", 0)", x.explained(s, 0), NOTHING);
            Due.is("copy to " + s, x.copy(s, 0, s, 0, 0), NOTHING);
            Due.is("lay(0, 2, " + s + ")", x.lay(0, 2, s), NOTHING);
        }
        for (int s : new int[] {-1, 4}) {
            Due.is("sheet(" + s + ", 0, 0)", x.sheet(s, 0, 0), BAD);
            Due.is("mark(" + s + ", 0, 0)", x.mark(s, 0, 0), BAD);
            Due.is("pour(" + s + ")", x.pour(s), BAD);
            Due.is("explained(" + s + ", 0)", x.explained(s, 0), BAD);
            Due.is("lay(0, 2, " + s + ")", x.lay(0, 2, s), BAD);
        }
    }

    private static void sizes() {
        Due.sentence("SIZE: a number of places is below 0");
        ShyWell x = new ShyWell();
        for (int sort = 0; sort < 2; sort++) {
            Due.is("-1", x.sheet(0, sort, -1), SIZE);
            Due.is("the lowest", x.sheet(0, sort, LOW), SIZE);
        }
        Due.is("MISSING yet", x.mark(0, 0, 0), NOTHING);
        Due.sentence("A SHEET becomes a row of n places of a sort, all 0");
        for (int sort = 0; sort < 2; sort++) {
            for (int n : new int[] {0, 1, 24}) {
                Due.is("n " + n, x.sheet(3, sort, n), n);
                places("sort " + sort + ", n " + n, x, 3, new int[n]);
            }
            Due.is("n 25", x.sheet(3, sort, 25), BAD);
            places("24 yet", x, 3, new int[24]);
            Due.is("mark the last", x.mark(3, 23, 1), 1);
            Due.is("mark one behind it", x.mark(3, 24, 1), INDEX);
        }
    }

    private static void allNothingAgain() {
        Due.sentence("A SHEET becomes a row of n places of a sort, all 0");
        ShyWell x = with(1, 7, NONE, -7);
        x.sheet(0, 1, 3);
        places("the same again", x, 0, 0, 0, 0);
        x.mark(0, 2, 5);
        x.sheet(0, 1, 2);
        x.sheet(0, 1, 3);
        places("smaller and larger", x, 0, 0, 0, 0);
        x.mark(0, 0, NONE);
        x.sheet(0, 0, 1);
        places("of another sort", x, 0, 0);
    }

    private static void missingAgain() {
        Due.sentence("(sort -1: MISSING, n any): n (0).");
        for (int n : new int[] {0, 3, 24, 25, -1, LOW, HIGH}) {
            ShyWell x = with(0, 1, 2);
            Due.is("sheet(0, -1, " + n + ")", x.sheet(0, -1, n), 0);
            Due.is("MISSING", x.mark(0, 0, 0), NOTHING);
            Due.is("MISSING already", x.sheet(0, -1, n), 0);
            Due.is("no SHEET 4", x.sheet(4, -1, n), BAD);
            Due.is("no sort -2", x.sheet(0, -2, n), BAD);
        }
    }

    private static void lowestBits() {
        Due.sentence("(of shorts its lowest 16 bits; of floats v, -99999 .. 99999; NONE: NO NUMBER): 1.");
        int[] v = {32767, 32768, 65535, 65536, 65537, -32768, -32769, -1, -65536, HIGH, LOW, 0x12348000};
        int[] due = {32767, -32768, -1, 0, 1, -32768, 32767, -1, 0, -1, 0, -32768};
        ShyWell x = with(0, v);
        places("shorts", x, 0, due);
        Due.is("one beside NONE", x.mark(0, 0, NONE + 1), 1);
        Due.is("NONE", x.mark(0, 1, NONE), KIND);
        x.lay(4, 2, 0);
        Due.is("one beside NONE", x.item(4, 0), 13820);
        Due.is("where NONE was refused", x.item(4, 1), -32768);
    }

    private static void floatBounds() {
        Due.sentence("of floats v, -99999 .. 99999; NONE: NO NUMBER");
        ShyWell x = with(1, 99999, -99999, 0, 1, -1, NONE, 32768);
        places("floats", x, 0, 99999, -99999, 0, 1, -1, KIND, 32768);
        for (int v : new int[] {100000, -100000, LOW, HIGH, BAD, NONE + 1, NONE - 1}) Due.is("mark(0, 0, " + v + ")", x.mark(0, 0, v), BAD);
        places("as they were", x, 0, 99999, -99999, 0, 1, -1, KIND, 32768);
    }

    private static void noNumber() {
        Due.sentence("A place of floats may be NO NUMBER.");
        ShyWell x = with(1, 4);
        for (int i = 0; i < 2; i++) {
            Due.is("NO NUMBER", x.mark(0, 0, NONE), 1);
            places("it is", x, 0, KIND);
            Due.is("a number again", x.mark(0, 0, 6), 1);
            places("it is", x, 0, 6);
        }
        Due.sentence("KIND: NONE in a row of shorts");
        x.sheet(0, 0, 1);
        Due.is("shorts", x.mark(0, 0, NONE), KIND);
        places("as it was", x, 0, 0);
    }

    // ---- pour and copy

    private static void pourHolds() {
        Due.sentence("(each held within 0 .. 9; NO NUMBER, and beyond the SHEET: they stay)");
        ShyWell x = with(1, -99999, -1, 0, 9, 10, 99999, NONE, 5);
        for (int i = 0; i < 8; i++) x.comer(0, 0, 1, 4);
        Due.is("pour(0)", x.pour(0), 7);
        int[] due = {0, 0, 0, 9, 9, 9, 4, 5};
        for (int i = 0; i < 8; i++) {
            Due.is("NEED of " + i, x.told(i, 3), due[i]);
            Due.is("WANT of " + i + " stays", x.told(i, 4), 4);
        }
    }

    private static void pourBeyond() {
        Due.sentence("NO NUMBER, and beyond the SHEET: they stay)");
        for (int n : new int[] {0, 1, 2, 3, 24}) {
            ShyWell x = with(0, new int[n]);
            for (int i = 0; i < 3; i++) x.comer(0, 0, 1, 6);
            Due.is("of " + n + " places", x.pour(0), Math.min(n, 3));
            for (int i = 0; i < 3; i++) Due.is("NEED of " + i, x.told(i, 3), i < n ? 0 : 6);
        }
        Due.is("nobody", with(0, 1, 2, 3).pour(0), 0);
    }

    private static void pourCounts() {
        Due.sentence("how many are otherwise then.");
        ShyWell x = with(0, 4, 5, 12, 9);
        for (int need : new int[] {4, 4, 9, 9}) x.comer(0, 0, 1, need);
        Due.is("one is", x.pour(0), 1);
        Due.is("none is", x.pour(0), 0);
        x.set(2, 3, 0);
        Due.is("one is again", x.pour(0), 1);
    }

    private static void copyAll() {
        Due.sentence("So many places of a SHEET come to another one (or the same), as they were: many.");
        ShyWell x = new ShyWell();
        x.sheet(0, 0, 24);
        x.sheet(3, 0, 24);
        for (int i = 0; i < 24; i++) x.mark(0, i, 100 + i);
        Due.is("24", x.copy(0, 0, 3, 0, 24), 24);
        Due.is("25", x.copy(0, 0, 3, 0, 25), INDEX);
        x.lay(4, 2, 3);
        for (int i = 0; i < 24; i++) Due.is("place " + i, x.item(4, i), 100 + i);
        Due.is("the last to the first", x.copy(0, 23, 3, 0, 1), 1);
        Due.is("the first to the last", x.copy(0, 0, 3, 23, 1), 1);
        x.lay(4, 2, 3);
        Due.is("the last to the first", x.item(4, 0), 123);
        Due.is("the first to the last", x.item(4, 23), 100);
        Due.is("nothing else", x.item(4, 1), 101);
    }

    private static void copyNone() {
        Due.sentence("INDEX: there is no such place");
        ShyWell x = with(0, 1, 2, 3);
        for (int p = 0; p <= 3; p++) Due.is("none from " + p, x.copy(0, p, 0, 3 - p, 0), 0);
        Due.is("none from 4", x.copy(0, 4, 0, 0, 0), INDEX);
        Due.is("none to 4", x.copy(0, 0, 0, 4, 0), INDEX);
        Due.is("none from -1", x.copy(0, -1, 0, 0, 0), INDEX);
        Due.is("none to -1", x.copy(0, 0, 0, -1, 0), INDEX);
        Due.is("fewer than none", x.copy(0, 1, 0, 1, -1), INDEX);
        Due.is("one behind the last", x.copy(0, 3, 0, 0, 1), INDEX);
        Due.is("one beyond the end", x.copy(0, 2, 0, 0, 2), INDEX);
        Due.is("one beyond the other's end", x.copy(0, 0, 0, 2, 2), INDEX);
        Due.is("sums that wrap", x.copy(0, HIGH, 0, 0, HIGH), INDEX);
        Due.is("sums that wrap there", x.copy(0, 0, 0, HIGH, 2), INDEX);
        Due.is("so many that it wraps", x.copy(0, 2, 0, 2, HIGH), INDEX);
        places("as they were", x, 0, 1, 2, 3);
        x.sheet(1, 0, 0);
        Due.is("none of no places", x.copy(1, 0, 1, 0, 0), 0);
        Due.is("one of no places", x.copy(1, 0, 0, 0, 1), INDEX);
        Due.is("one to no places", x.copy(0, 0, 1, 0, 1), INDEX);
    }

    private static void copyAsTheyWere() {
        Due.sentence("(or the same), as they were: many.");
        ShyWell x = with(0, 1, 2, 3, 4, 5);
        x.copy(0, 0, 0, 1, 4);
        places("upwards", x, 0, 1, 1, 2, 3, 4);
        x.copy(0, 2, 0, 0, 3);
        places("downwards", x, 0, 2, 3, 4, 3, 4);
        x.copy(0, 0, 0, 0, 5);
        places("onto themselves", x, 0, 2, 3, 4, 3, 4);
        ShyWell y = with(1, NONE, 5, NONE);
        y.copy(0, 0, 0, 1, 2);
        places("NO NUMBER", y, 0, KIND, KIND, 5);
    }

    private static void copyOneSort() {
        Due.sentence("KIND: they are not of one sort");
        ShyWell x = with(0, 1);
        x.sheet(1, 1, 1);
        Due.is("shorts to floats", x.copy(0, 0, 1, 0, 1), KIND);
        Due.is("floats to shorts", x.copy(1, 0, 0, 0, 1), KIND);
        Due.is("none of them", x.copy(1, 0, 0, 0, 0), KIND);
        Due.is("no such place", x.copy(0, 7, 1, 7, 7), KIND);
        x.sheet(2, 1, 1);
        Due.is("floats to floats", x.copy(1, 0, 2, 0, 1), 1);
    }

    // ---- slots

    private static void slotsAtFirst() {
        Due.sentence("SLOTS 0 .. 4 each hold nothing (at first), a COMER (as it is then, for good), a SHEET (a row of its own, as it was then), or a number.");
        ShyWell x = with(0, 8);
        x.comer(0, 8, 1, 1);
        for (int s = 0; s < 5; s++) {
            Due.is("ask(" + s + ", 0)", x.ask(s, 0), NOTHING);
            Due.is("item(" + s + ", 0)", x.item(s, 0), NOTHING);
            Due.is("rest(" + s + ", 1)", x.rest(s, 1), NOTHING);
            int held = 0;
            for (int thing : new int[] {1, 1, 2, 2, 3, 3, 1, 3, 2, 1, 0, 0}) {
                Due.is("SLOT " + s + ": lay " + thing, x.lay(s, thing, 0), held);
                held = thing;
            }
        }
        for (int s : new int[] {-1, 5}) {
            Due.is("lay(" + s + ", 0, 0)", x.lay(s, 0, 0), BAD);
            Due.is("ask(" + s + ", 0)", x.ask(s, 0), BAD);
            Due.is("item(" + s + ", 0)", x.item(s, 0), BAD);
            Due.is("rest(" + s + ", 1)", x.rest(s, 1), BAD);
        }
        for (int t : new int[] {-1, 4}) Due.is("lay(0, " + t + ", 0)", x.lay(0, t, 0), BAD);
    }

    private static void comerForGood() {
        Due.sentence("a COMER (as it is then, for good)");
        ShyWell x = new ShyWell();
        x.keep();
        for (int i = 0; i < 8; i++) x.comer(1, i, 1, 1);
        Due.is("the last COMER", x.lay(0, 1, 7), 0);
        Due.is("none behind it", x.lay(0, 1, 8), BAD);
        Due.is("none ahead of the first", x.lay(0, 1, -1), BAD);
        Due.is("its WORTH", x.ask(0, 1), 10);
        x.set(7, 1, 50);
        x.turns(7, 5);
        Due.is("for good, whatever it becomes", x.ask(0, 1), 10);
        x.back();
        Due.is("for good, though it is not there any more", x.ask(0, 0), 10);
        Due.is("and can't be laid again", x.lay(1, 1, 7), BAD);
    }

    private static void sheetOfItsOwn() {
        Due.sentence("a SHEET (a row of its own, as it was then)");
        ShyWell x = with(1, 1, NONE, 3);
        x.lay(0, 2, 0);
        x.lay(1, 2, 0);
        x.mark(0, 0, 9);
        x.lay(1, 2, 0);
        x.sheet(0, 0, 24);
        Due.is("as it was first", x.item(0, 0), 1);
        Due.is("NO NUMBER in it", x.item(0, 1), KIND);
        Due.is("it ends there", x.item(0, 3), INDEX);
        Due.is("as it was then", x.item(1, 0), 9);
        x.sheet(0, -1, 0);
        Due.is("though it is MISSING", x.item(0, 2), 3);
        x.sheet(1, 1, 0);
        x.lay(2, 2, 1);
        Due.is("no places", x.item(2, 0), INDEX);
        Due.sentence("NOTHING: that SHEET is MISSING.");
        Due.is("lay(0, 2, 0)", x.lay(0, 2, 0), NOTHING);
        Due.is("it holds what it held", x.item(0, 0), 1);
    }

    private static void anyNumber() {
        Due.sentence("thing 0 nothing, 1 COMER k, 2 SHEET k, 3 the number k");
        ShyWell x = new ShyWell();
        for (int k : new int[] {0, -1, 8, LOW, HIGH, NONE}) {
            x.lay(0, 3, k);
            Due.is("the number " + k, x.rest(0, HIGH), k % HIGH);
            Due.is("nothing, k " + k, x.lay(0, 0, k), 3);
            Due.is("nothing", x.rest(0, HIGH), NOTHING);
        }
    }

    private static void askedAsAKind() {
        Due.sentence("WORTH of the COMER in a SLOT, taken for one of a KIND (0 .. 5).");
        ShyWell x = new ShyWell();
        int[] worth = {59, 62, 1, 124, -4, 30};
        String[] under = {"0", "01", "02", "013", "024", "05"};
        for (int kind = 0; kind < 6; kind++) {
            x.comer(kind, 59, 1, 1);
            x.lay(0, 1, kind);
            for (int k = 0; k < 6; k++) Due.is(kind + " for " + k, x.ask(0, k), under[kind].indexOf('0' + k) >= 0 ? worth[kind] : KIND);
            Due.is(kind + " for 6", x.ask(0, 6), BAD);
            Due.is(kind + " for -1", x.ask(0, -1), BAD);
        }
    }

    private static void itemBounds() {
        Due.sentence("A place of the SHEET in a SLOT.");
        ShyWell x = new ShyWell();
        for (int n : new int[] {0, 1, 24}) {
            x.sheet(0, 0, n);
            for (int i = 0; i < n; i++) x.mark(0, i, 1000 + i);
            x.lay(0, 2, 0);
            for (int i = 0; i < n; i++) Due.is("place " + i, x.item(0, i), 1000 + i);
            for (int p : new int[] {-1, n, 25, LOW, HIGH}) Due.is("place " + p, x.item(0, p), INDEX);
        }
    }

    private static void restBy() {
        Due.sentence("The rest of the number in a SLOT by n.");
        int[][] cases = {{7, 3, 1}, {-7, 3, -1}, {7, -3, 1}, {-7, -3, -1}, {0, 5, 0}, {5, 1, 0}, {LOW, -1, 0}, {LOW, LOW, 0}, {LOW, HIGH, -1}, {HIGH, LOW, HIGH}, {5, 0, NO}, {0, 0, NO}};
        for (int[] c : cases) {
            ShyWell x = new ShyWell();
            x.lay(0, 3, c[0]);
            Due.is(c[0] + " by " + c[1], x.rest(0, c[1]), c[2]);
        }
    }

    // ---- rows

    private static void sixtyNumbers() {
        Due.sentence("One more number waits: how many. FULL: 60 wait.");
        ShyWell x = new ShyWell();
        for (int i = 1; i <= 60; i++) Due.is("tell " + i, x.tell(i % 2 == 0 ? LOW : HIGH), i);
        Due.is("60 wait", x.tell(1), FULL);
        Due.is("60 wait", x.count(9), 60);
        x.check(0);
        Due.is("none wait", x.count(9), 0);
        Due.is("the first again", x.tell(1), 1);
    }

    /** Minutes that say WATER 3, 3, 4, 4, 5 and so on up to 9, nobody standing. */
    private static ShyWell quiet() {
        ShyWell x = new ShyWell();
        x.well(0, 2);
        x.keep();
        return x;
    }

    private static int checked(ShyWell x, int n, int... numbers) {
        for (int v : numbers) x.tell(v);
        int answer = x.check(n);
        Due.is("none wait then", x.count(9), 0);
        return answer;
    }

    private static void checkOfNone() {
        Due.sentence("(none do then, whatever is answered)");
        ShyWell x = quiet();
        Due.is("true", checked(x, 1, 3, 0), 0);
        Due.is("untrue", checked(x, 1, 4, 0), 1);
        Due.is("none", checked(x, 1), 1);
        Due.is("n too small", checked(x, 0, 3, 0), BAD);
        Due.is("n too large", checked(x, 31, 3, 0), BAD);
        Due.is("no IMAGE", checked(new ShyWell(), 1, 3, 0), NO);
        Due.is("n too small, no IMAGE", checked(new ShyWell(), 0, 3, 0), BAD);
    }

    private static void checkFirstWrong() {
        Due.sentence("else 1 and how many stand right ahead of the first that is not (or is missing, or one too many).");
        int[] right = {3, 0, 4, 0, 4, 0, 5, 0};
        for (int i = 0; i < right.length; i++) {
            int[] wrong = right.clone();
            wrong[i] += 1;
            if (i < 5) wrong[i + 2] -= 9;
            Due.is("wrong at " + i, checked(quiet(), 4, wrong), 1 + i);
        }
        Due.is("right", checked(quiet(), 4, right), 0);
    }

    private static void checkMissing() {
        Due.sentence("(or is missing, or one too many)");
        int[] right = {3, 0, 4, 0, 4, 0, 5, 0};
        for (int many = 0; many < 8; many++) Due.is(many + " of 8", checked(quiet(), 4, java.util.Arrays.copyOf(right, many)), 1 + many);
    }

    private static void checkTooMany() {
        Due.sentence("(or is missing, or one too many)");
        Due.is("one more", checked(quiet(), 1, 3, 0, 4), 3);
        Due.is("two more, as they would be", checked(quiet(), 1, 3, 0, 4, 0), 3);
        Due.is("a wrong one stands ahead", checked(quiet(), 1, 3, 1, 4, 0), 2);
        int[] all = new int[60];
        for (int i = 0; i < 60; i += 2) all[i] = Math.min(9, 3 + (i / 2 + 1) / 2);
        Due.is("two more than 29 minutes", checked(quiet(), 29, all), 59);
    }

    private static void checkThirty() {
        Due.sentence("are THE MINUTES TOLD of n (1 .. 30; fewer, if THE MINUTE would be above 99999), two by two: 0");
        int[] all = new int[60];
        for (int i = 0; i < 60; i += 2) all[i] = Math.min(9, 3 + (i / 2 + 1) / 2);
        Due.is("30", checked(quiet(), 30, all), 0);
        all[59] = 1;
        Due.is("30, the last is not", checked(quiet(), 30, all), 60);
        Due.is("1", checked(quiet(), 1, 3, 0), 0);
        Due.is("31", checked(quiet(), 31, all), BAD);
        Due.sentence("of n MINUTES, one behind the other, by THE IMAGE: WATER; how many STAND behind it.");
        ShyWell x = new ShyWell();
        x.well(2, 0);
        for (int i = 0; i < 8; i++) x.comer(2, 2, 1, 9);
        Due.text(x, "leave t=1");
        x.keep();
        x.run(9);
        Due.is("eight stand", checked(x, 4, 0, 0, 0, 8, 0, 8, 0, 0), 0);
        Due.is("again and again", checked(x, 4, 0, 0, 0, 8, 0, 8, 0, 0), 0);
    }

    private static void checkTheLastMinute() {
        Due.sentence("fewer, if THE MINUTE would be above 99999");
        ShyWell x = new ShyWell();
        x.well(1, 0);
        for (int i = 0; i < 333; i++) x.run(300);
        x.run(97);
        x.keep();
        Due.is("99997", x.count(2), 99997);
        for (int n : new int[] {2, 3, 30}) {
            Due.is(n + ": the two that are left", checked(x, n, 3, 0, 3, 0), 0);
            Due.is(n + ": three are too many", checked(x, n, 3, 0, 3, 0, 3, 0), 5);
            Due.is(n + ": one is too few", checked(x, n, 3, 0), 3);
        }
        x.run(2);
        x.keep();
        Due.is("none are left", checked(x, 30), 0);
        Due.is("none are left, one number", checked(x, 1, 3), 1);
    }

    // ---- images

    private static void keepNoneAndAll() {
        Due.sentence("AN IMAGE is kept: how many COMERS.");
        ShyWell x = new ShyWell();
        Due.is("none", x.keep(), 0);
        for (int i = 0; i < 8; i++) {
            x.comer(0, i, 1, 1);
            Due.is((i + 1) + " of them", x.keep(), i + 1);
        }
        Due.is("all come back", x.back(), 8);
        for (int i = 0; i < 8; i++) Due.is("as it was", x.told(i, 1), i);
    }

    private static void backAgainAndAgain() {
        Due.sentence("all can become as it is (again and again).");
        ShyWell x = new ShyWell();
        x.comer(1, 0, 1, 9);
        Due.text(x, "fine 1+g");
        x.well(0, 7);
        x.run(20);
        int[] counts = new int[12];
        for (int i = 0; i < 12; i++) counts[i] = x.count(i);
        int fine = x.fine(0);
        x.keep();
        for (int again = 0; again < 3; again++) {
            x.run(100);
            x.deal(8);
            x.seed(again);
            x.well(0, 60);
            for (int i = 0; i < 13; i++) Due.text(x, "fine " + i);
            Due.is("14 TEXTS", x.count(8), 14);
            Due.is("8 COMERS", x.count(0), 8);
            Due.is("back()", x.back(), 1);
            for (int i = 0; i < 12; i++) Due.is("count(" + i + ")", x.count(i), counts[i]);
            Due.is("fine(0)", x.fine(0), fine);
            Due.is("COMER 1 is gone", x.told(1, 0), BAD);
            Due.is("TEXT 1 is gone", x.textTold(1, 0), BAD);
            Due.is("QUARTER", x.well(0, 7), 7);
        }
        Due.is("there is room for a TEXT", Due.text(x, "fine 5"), 1);
        Due.is("there is room for a COMER", x.comer(0, 0, 1, 1), 1);
    }

    /** All that can be told of COMERS and the well, once all of it has become something else. */
    private static void backWholly() {
        Due.sentence("All is as THE IMAGE: how many COMERS.");
        ShyWell x = new ShyWell();
        int[] wells = {20, 30, 1, 2, 3};
        for (int i = 0; i < 5; i++) x.well(i, wells[i]);
        Due.text(x, "leave t=a|t=30+a");
        Due.text(x, "stay 6");
        for (int i = 0; i < 4; i++) x.comer(new int[] {0, 2, 1, 5}[i], i, 1 + i, 9 - i);
        x.run(35);
        int[][] told = new int[4][15];
        for (int c = 0; c < 4; c++) for (int what = 0; what < 15; what++) told[c][what] = x.told(c, what);
        for (int what = 9; what < 12; what++) Due.holds("something came of it: " + what, told[0][what] + told[1][what] + told[2][what] + told[3][what] > 0);
        int water = x.count(3), waits = x.count(5);
        Due.holds("somebody waited", waits > 0);
        x.keep();
        x.run(300);
        for (int i = 0; i < 5; i++) x.well(i, 9);
        for (int c = 0; c < 4; c++) {
            x.turns(c, 4);
            for (int what = 1; what < 5; what++) x.set(c, what, 8);
        }
        Due.is("back()", x.back(), 4);
        for (int c = 0; c < 4; c++) for (int what = 0; what < 15; what++) Due.is("told(" + c + ", " + what + ")", x.told(c, what), told[c][what]);
        Due.is("WAITS", x.count(5), waits);
        wells[2] = water;
        for (int i = 0; i < 5; i++) Due.is("well(" + i + ", 5)", x.well(i, 5), wells[i]);
    }

    private static void begunAnew() {
        Due.sentence("WHERE (0 HOME, at first; 1 OUT; 2 STANDS; 3 BACK), LEFT: minutes to go (0 at first), WAITED (0), SINCE (0), GOT, EMPTY, VISITS (0)");
        for (int minutes = 1; minutes < 70; minutes += 3) {
            ShyWell x = new ShyWell();
            x.keep();
            x.comer(2, 3, 4, 9);
            x.well(2, 1);
            Due.text(x, "leave s>2");
            x.run(minutes);
            x.back();
            Due.is("COMER 0 again", x.comer(0, 1, 2, 3), 0);
            int[] fresh = {0, 1, 2, 3, 3, 0, 0, 0, 0, 0, 0, 0};
            for (int what = 0; what < 12; what++) Due.is("behind " + minutes + ": told(0, " + what + ")", x.told(0, what), fresh[what]);
        }
    }

    private static void outsideTheImage() {
        Due.sentence("AN IMAGE keeps all but SHEETS, SLOTS, numbers that wait, THE TAPE");
        ShyWell x = with(0, 4);
        x.comer(0, 9, 1, 1);
        x.keep();
        x.mark(0, 0, 5);
        x.sheet(1, 1, 2);
        x.lay(0, 1, 0);
        x.tell(1);
        x.tell(2);
        Due.lay(x, "fine 1");
        x.back();
        places("a SHEET stays as it is", x, 0, 5);
        places("a SHEET that was MISSING is there", x, 1, 0, 0);
        Due.is("a SLOT stays as it is", x.ask(0, 0), 9);
        Due.is("numbers wait on", x.count(9), 2);
        Due.is("THE TAPE stays", x.text(), 0);
    }

    private static void countBounds() {
        Due.sentence("0 how many COMERS, 1 how many STAND, 2 THE MINUTE, 3 WATER, 4 QUIET, 5 WAITS, 6 GOT of all, 7 EMPTY of all, 8 how many TEXTS, 9 how many numbers wait, 10 bytes of THE TAPE, 11 z. BAD.");
        ShyWell x = new ShyWell();
        for (int i = 0; i < 8; i++) x.comer(i < 2 ? 0 : 2, i < 2 ? 1 - i : 9, 1, 1);
        x.well(2, 1);
        x.well(0, 60);
        for (int i = 0; i < 14; i++) Due.text(x, "leave t=a");
        x.run(12);
        for (int i = 0; i < 60; i++) x.tell(0);
        Due.lay(x, " ".repeat(96));
        int z = 1;
        for (int i = 0; i < 8; i++) z = z * 1103515245 + 12345;
        int[] due = {8, 6, 12, 0, 0, 12, 1, 1, 14, 60, 96, z};
        for (int i = 0; i < 12; i++) Due.is("count(" + i + ")", x.count(i), due[i]);
        Due.is("count(12)", x.count(12), BAD);
        Due.is("count(-1)", x.count(-1), BAD);
    }
}
