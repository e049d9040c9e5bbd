/** Promises 23 to 31: sheets and slots. */
public final class SheetsTest {
    private static final int BAD = ShyWell.BAD, NONE = ShyWell.NONE, NO = ShyWell.NO;
    private static final int NOTHING = ShyWell.NOTHING, KIND = ShyWell.KIND, INDEX = ShyWell.INDEX, SIZE = ShyWell.SIZE;
    private static final int LOW = Integer.MIN_VALUE, HIGH = Integer.MAX_VALUE;

    public static void main(String[] args) {
        sheet();
        mark();
        pour();
        explained();
        copy();
        lay();
        ask();
        item();
        rest();
        Due.end();
    }

    private static void row(String when, ShyWell x, int sheet, int... due) {
        Due.is(when + ": lay", x.lay(4, 2, sheet) >= 0 ? 1 : 0, 1);
        for (int i = 0; i < due.length; i++) Due.is(when + ": place " + i, x.item(4, i), due[i]);
        Due.is(when + ": behind the last", x.item(4, due.length), INDEX);
    }

    private static ShyWell with(int sort, int... places) {
        ShyWell x = new ShyWell();
        x.sheet(0, sort, places.length);
        for (int i = 0; i < places.length; i++) x.mark(0, i, places[i]);
        return x;
    }

    private static void sheet() {
        ShyWell x = new ShyWell();
        for (int s : new int[] {-1, 4, LOW}) Due.is("sheet(" + s + ", 0, 1)", x.sheet(s, 0, 1), BAD);
        for (int s : new int[] {-2, 2}) Due.is("sheet(0, " + s + ", 1)", x.sheet(0, s, 1), BAD);
        for (int n : new int[] {25, HIGH}) Due.is("sheet(0, 1, " + n + ")", x.sheet(0, 1, n), BAD);
        for (int n : new int[] {-1, LOW}) Due.is("sheet(0, 1, " + n + ")", x.sheet(0, 1, n), SIZE);
        Due.is("BAD ahead of SIZE", x.sheet(0, 2, -1), BAD);
        Due.is("refused: MISSING", x.mark(0, 0, 0), NOTHING);
        Due.is("sheet(3, 0, 24)", x.sheet(3, 0, 24), 24);
        row("24 places", x, 3, 0, 0, 0, 0, 0, 0, 0, 0, 0, 0, 0, 0, 0, 0, 0, 0, 0, 0, 0, 0, 0, 0, 0, 0);
        Due.is("sheet(1, 1, 0)", x.sheet(1, 1, 0), 0);
        row("no places", x, 1);
        Due.is("sheet(0, 1, 3)", x.sheet(0, 1, 3), 3);
        x.mark(0, 1, 5);
        Due.is("a refusal leaves it", x.sheet(0, 0, -1), SIZE);
        row("as it was", x, 0, 0, 5, 0);
        x.sheet(0, 0, 3);
        row("all 0 again", x, 0, 0, 0, 0);
        for (int n : new int[] {7, -1, 99, LOW}) Due.is("sheet(0, -1, " + n + ")", x.sheet(0, -1, n), 0);
        Due.is("MISSING", x.mark(0, 0, 0), NOTHING);
        Due.is("sheet(4, -1, 0)", x.sheet(4, -1, 0), BAD);
    }

    private static void mark() {
        ShyWell x = new ShyWell();
        for (int s : new int[] {-1, 4}) Due.is("mark(" + s + ", 0, 0)", x.mark(s, 0, 0), BAD);
        Due.is("NOTHING ahead of INDEX", x.mark(2, -1, 0), NOTHING);
        x.sheet(0, 0, 3);
        x.sheet(1, 1, 3);
        for (int p : new int[] {-1, 3, LOW, HIGH}) Due.is("mark(0, " + p + ", 0)", x.mark(0, p, 0), INDEX);
        Due.is("INDEX ahead of KIND", x.mark(0, 3, NONE), INDEX);
        Due.is("NONE among shorts", x.mark(0, 0, NONE), KIND);
        Due.is("shorts 0", x.mark(0, 0, 32767), 1);
        Due.is("shorts 1", x.mark(0, 1, 32768), 1);
        Due.is("shorts 2", x.mark(0, 2, 0x12340005), 1);
        row("the lowest 16 bits", x, 0, 32767, -32768, 5);
        Due.is("floats 0", x.mark(1, 0, 99999), 1);
        Due.is("floats 1", x.mark(1, 1, -99999), 1);
        Due.is("floats 2", x.mark(1, 2, NONE), 1);
        row("floats", x, 1, 99999, -99999, KIND);
        for (int v : new int[] {100000, -100000, LOW, HIGH}) Due.is("mark(1, 0, " + v + ")", x.mark(1, 0, v), BAD);
        Due.is("INDEX ahead of BAD", x.mark(1, 3, HIGH), INDEX);
        row("refused: as they were", x, 1, 99999, -99999, KIND);
    }

    private static void pour() {
        ShyWell x = with(1, 5, NONE, 12, -3, 4);
        for (int s : new int[] {-1, 4}) Due.is("pour(" + s + ")", x.pour(s), BAD);
        Due.is("pour(1)", x.pour(1), NOTHING);
        Due.is("no comers", x.pour(0), 0);
        for (int i = 0; i < 7; i++) x.comer(0, 0, 1, 4);
        Due.is("how many are otherwise", x.pour(0), 3);
        int[] needs = {5, 4, 9, 0, 4, 4, 4};
        for (int i = 0; i < 7; i++) {
            Due.is("NEED of " + i, x.told(i, 3), needs[i]);
            Due.is("WANT of " + i, x.told(i, 4), 4);
        }
        Due.is("again", x.pour(0), 0);
        x.sheet(2, 0, 24);
        Due.is("a longer sheet", x.pour(2), 6);
        Due.is("all 0", x.told(6, 3), 0);
    }

    private static void explained() {
        ShyWell x = with(0, 3, 4, 5, 6);
        Due.is("the quarter", x.explained(0, 0), 8);
        Due.is("the differences", x.explained(0, 1), 0);
        x.run(5);
        Due.is("QUIET counts", x.explained(0, 0), 9);
        x = with(0, 3, 3, 4);
        x.mark(0, 0, 103);
        Due.is("the least of several", x.explained(0, 0), 11);
        Due.is("signs left out", x.explained(0, 1), 100);
        x = with(1, 2, NONE, NONE, 40);
        Due.is("MOST bounds", x.explained(0, 1), 32);
        Due.is("from 1 on", x.explained(0, 0), 1);
        x.well(2, 30);
        Due.is("above MOST", x.explained(0, 1), 28 + 10);
        x = with(1, NONE, NONE);
        Due.is("no numbers", x.explained(0, 0), 1);
        Due.is("no differences", x.explained(0, 1), 0);
        x = with(0, 3, 3);
        Due.is("never", x.explained(0, 0), 11);
        x = with(1, NONE, 8);
        Due.is("two minutes a bucket", x.explained(0, 0), 2);
        x = with(1, NONE, NONE, NONE, NONE, NONE, 3, 4);
        Due.is("51 to 60 explain it", x.explained(0, 0), 51);
        x.run(9);
        Due.is("60 only", x.explained(0, 0), 60);
        Due.is("wholly", x.explained(0, 1), 0);
        x.run(1);
        Due.is("none beyond 60", x.explained(0, 1), 1);
        for (int s : new int[] {-1, 4}) Due.is("explained(" + s + ", 0)", x.explained(s, 0), BAD);
        for (int w : new int[] {-1, 2}) Due.is("explained(0, " + w + ")", x.explained(0, w), BAD);
        Due.is("BAD ahead of NOTHING", x.explained(1, 2), BAD);
        Due.is("explained(1, 1)", x.explained(1, 1), NOTHING);
    }

    private static void copy() {
        ShyWell x = with(0, 1, 2, 3, 4, 5);
        for (int s : new int[] {-1, 4}) {
            Due.is("copy(" + s + ", ..)", x.copy(s, 0, 0, 0, 1), BAD);
            Due.is("copy(0, 0, " + s + ", ..)", x.copy(0, 0, s, 0, 1), BAD);
        }
        Due.is("from a MISSING one", x.copy(1, -1, 0, 0, 1), NOTHING);
        Due.is("to a MISSING one", x.copy(0, 0, 1, 0, 99), NOTHING);
        Due.is("between MISSING ones", x.copy(1, 0, 1, 0, 0), NOTHING);
        x.sheet(1, 1, 5);
        Due.is("KIND ahead of INDEX", x.copy(0, 9, 1, 0, 1), KIND);
        x.sheet(1, 0, 3);
        int[][] wrong = {{-1, 0, 1}, {0, -1, 1}, {0, 0, -1}, {3, 0, 3}, {0, 1, 3}, {0, 0, 4}, {6, 0, 0}, {0, 4, 0}, {HIGH, 0, 1}, {0, HIGH, 1},
            {0, 0, HIGH}, {HIGH, 0, HIGH}, {1, 1, HIGH}, {LOW, 0, 1}, {0, 0, LOW}};
        for (int[] w : wrong) Due.is("copy(0, " + w[0] + ", 1, " + w[1] + ", " + w[2] + ")", x.copy(0, w[0], 1, w[1], w[2]), INDEX);
        row("refused: as it was", x, 1, 0, 0, 0);
        Due.is("copy(0, 2, 1, 1, 2)", x.copy(0, 2, 1, 1, 2), 2);
        row("they came", x, 1, 0, 3, 4);
        row("and stay", x, 0, 1, 2, 3, 4, 5);
        Due.is("none", x.copy(0, 5, 1, 3, 0), 0);
        Due.is("up to the end", x.copy(1, 0, 0, 2, 3), 3);
        row("up to the end", x, 0, 1, 2, 0, 3, 4);
        Due.is("the same, upwards", x.copy(0, 0, 0, 1, 4), 4);
        row("as they were", x, 0, 1, 1, 2, 0, 3);
        Due.is("the same, downwards", x.copy(0, 1, 0, 0, 4), 4);
        row("as they were", x, 0, 1, 2, 0, 3, 3);
        ShyWell y = with(1, 7, NONE, 9);
        y.copy(0, 1, 0, 0, 2);
        row("NO NUMBER comes along", y, 0, KIND, 9, 9);
    }

    private static void lay() {
        ShyWell x = with(0, 6);
        x.comer(1, 4, 1, 1);
        for (int s : new int[] {-1, 5}) Due.is("lay(" + s + ", 0, 0)", x.lay(s, 0, 0), BAD);
        for (int t : new int[] {-1, 4}) Due.is("lay(0, " + t + ", 0)", x.lay(0, t, 0), BAD);
        for (int k : new int[] {-1, 1, 8}) Due.is("lay(0, 1, " + k + ")", x.lay(0, 1, k), BAD);
        for (int k : new int[] {-1, 4}) Due.is("lay(0, 2, " + k + ")", x.lay(0, 2, k), BAD);
        Due.is("lay(0, 2, 3)", x.lay(0, 2, 3), NOTHING);
        Due.is("refused: nothing in it", x.ask(0, 0), NOTHING);
        Due.is("a comer", x.lay(0, 1, 0), 0);
        Due.is("a sheet", x.lay(0, 2, 0), 1);
        Due.is("a refusal", x.lay(0, 2, 1), NOTHING);
        Due.is("a number", x.lay(0, 3, LOW), 2);
        Due.is("nothing, k any", x.lay(0, 0, LOW), 3);
        Due.is("nothing again", x.lay(0, 0, HIGH), 0);
        for (int s = 0; s < 5; s++) x.lay(s, 3, 10 + s);
        for (int s = 0; s < 5; s++) Due.is("slot " + s + " holds its own", x.rest(s, 100), 10 + s);
        asItWas();
    }

    private static void asItWas() {
        ShyWell x = with(1, 6, 7);
        x.comer(1, 4, 1, 1);
        x.lay(0, 1, 0);
        x.lay(1, 2, 0);
        x.turns(0, 2);
        x.set(0, 1, 50);
        x.mark(0, 0, NONE);
        Due.is("the comer's WORTH", x.ask(0, 1), 7);
        Due.is("the comer's KIND", x.ask(0, 2), KIND);
        Due.is("the sheet's place", x.item(1, 0), 6);
        x.sheet(0, -1, 0);
        Due.is("a sheet that is MISSING now", x.item(1, 1), 7);
        x.lay(1, 1, 0);
        Due.is("laid anew", x.ask(1, 2), 10);
        Due.is("the other slot", x.ask(0, 0), 7);
    }

    private static void ask() {
        ShyWell x = with(0, 1);
        String[] under = {"0", "01", "02", "013", "024", "05"};
        int[] worth = {8, 11, 52, 22, 47, 30};
        for (int k = 0; k < 6; k++) x.comer(k, 8, 1, 1);
        for (int c = 0; c < 6; c++) {
            x.lay(2, 1, c);
            for (int k = 0; k < 6; k++) {
                boolean fits = under[c].indexOf((char) ('0' + k)) >= 0;
                Due.is("kind " + c + " taken for " + k, x.ask(2, k), fits ? worth[c] : KIND);
            }
        }
        for (int s : new int[] {-1, 5}) Due.is("ask(" + s + ", 0)", x.ask(s, 0), BAD);
        for (int k : new int[] {-1, 6}) Due.is("ask(0, " + k + ")", x.ask(0, k), BAD);
        Due.is("nothing", x.ask(0, 0), NOTHING);
        x.lay(0, 2, 0);
        Due.is("a sheet", x.ask(0, 0), KIND);
        x.lay(0, 3, 0);
        Due.is("a number", x.ask(0, 0), KIND);
    }

    private static void item() {
        ShyWell x = with(1, 3, NONE, -5);
        x.comer(0, 0, 1, 1);
        x.lay(0, 2, 0);
        x.lay(1, 1, 0);
        x.lay(2, 3, 0);
        int[] due = {3, KIND, -5};
        for (int i = 0; i < 3; i++) Due.is("item(0, " + i + ")", x.item(0, i), due[i]);
        for (int p : new int[] {-1, 3, LOW, HIGH}) Due.is("item(0, " + p + ")", x.item(0, p), INDEX);
        for (int s : new int[] {-1, 5}) Due.is("item(" + s + ", 0)", x.item(s, 0), BAD);
        Due.is("a comer, KIND ahead of INDEX", x.item(1, -1), KIND);
        Due.is("a number", x.item(2, 0), KIND);
        Due.is("nothing", x.item(3, -1), NOTHING);
    }

    private static void rest() {
        ShyWell x = with(0, 1);
        x.comer(0, 0, 1, 1);
        x.lay(0, 3, 17);
        x.lay(1, 3, -17);
        x.lay(2, 3, LOW);
        x.lay(3, 1, 0);
        int[][] due = {{0, 5, 2}, {0, -5, 2}, {1, 5, -2}, {1, -5, -2}, {0, 1, 0}, {2, -1, 0}, {2, LOW, 0}, {0, HIGH, 17}, {0, 0, NO}};
        for (int[] d : due) Due.is("rest(" + d[0] + ", " + d[1] + ")", x.rest(d[0], d[1]), d[2]);
        for (int s : new int[] {-1, 5}) Due.is("rest(" + s + ", 1)", x.rest(s, 1), BAD);
        Due.is("a comer, KIND ahead of NO", x.rest(3, 0), KIND);
        x.lay(3, 2, 0);
        Due.is("a sheet", x.rest(3, 2), KIND);
        Due.is("nothing ahead of NO", x.rest(4, 0), NOTHING);
    }
}
