import java.util.ArrayList;
import java.util.List;
import java.util.function.ToLongFunction;

/** Each refusal of each promise: which answer stands first, and that nothing is otherwise behind it. */
public final class RefusalsTest {
    private static final int BAD = ShyWell.BAD, NO = ShyWell.NO, FULL = ShyWell.FULL, NONE = ShyWell.NONE;
    private static final int NOTHING = ShyWell.NOTHING, KIND = ShyWell.KIND, INDEX = ShyWell.INDEX, SIZE = ShyWell.SIZE;
    private static final int LOW = Integer.MIN_VALUE, HIGH = Integer.MAX_VALUE;
    private static final String TAPE = "fine 70-g";

    /** What the object that is asked has been through before. */
    private enum Past { NEW, MIDST, FULL }

    private static Past past = Past.MIDST;

    public static void main(String[] args) {
        comers();
        habits();
        theWell();
        minutes();
        thoughts();
        tape();
        texts();
        sheets();
        places();
        copies();
        slots();
        slotsAsked();
        rows();
        images();
        Due.end();
    }

    // ---- what is asked, and what may not be otherwise then

    /** Asks one object, and holds it against one that was never asked. */
    private static void refused(String call, long due, ToLongFunction<ShyWell> act) {
        ShyWell asked = made(), other = made();
        Due.is(call, act.applyAsLong(asked), due);
        same(call, asked, other);
    }

    private static void same(String call, ShyWell asked, ShyWell other) {
        List<Long> got = all(asked), due = all(other);
        Due.is(call + ": how much can be asked", got.size(), due.size());
        for (int i = 0; i < got.size() && i < due.size(); i++) Due.is(call + ": changes nothing, answer " + i, got.get(i), due.get(i));
    }

    private static ShyWell made() {
        ShyWell x = new ShyWell();
        if (past == Past.NEW) return x;
        midst(x);
        if (past == Past.MIDST) return x;
        for (int i = 4; i < 8; i++) x.comer(3, 9, 9, 9);
        x.trim(0);
        for (int i = 2; i < 14; i++) Due.text(x, "fine 3");
        for (int i = 4; i < 60; i++) x.tell(i);
        Due.lay(x, "fine 1" + " ".repeat(90));
        return x;
    }

    /** One stands, one is out, one back, one home; all else holds something, too. */
    private static void midst(ShyWell x) {
        for (int what = 0; what < 5; what++) x.well(what, new int[] {17, 20, 1, 2, 10}[what]);
        x.comer(4, 9, 1, 5);
        x.comer(1, 2, 20, 9);
        x.comer(0, 3, 6, 3);
        x.comer(5, 50, 2, 8);
        Due.text(x, "leave t = a | s > 90");
        Due.text(x, "stay n + 1 - (a < 9)");
        x.keep();
        x.run(14);
        x.sheet(0, 0, 3);
        x.mark(0, 1, 7);
        x.sheet(1, 1, 4);
        x.mark(1, 0, NONE);
        x.mark(1, 2, -5);
        x.lay(0, 1, 0);
        x.lay(1, 2, 1);
        x.lay(2, 3, 17);
        for (int v : new int[] {1, 0, 1, 0}) x.tell(v);
        Due.lay(x, TAPE);
    }

    /** All that an object can be asked, the acts that change it last; some 300 calls. */
    private static List<Long> all(ShyWell x) {
        List<Long> row = new ArrayList<>();
        row.addAll(state(x));
        for (int key = 0; key < 3; key++) row.add((long) x.why(key));
        for (int text = 0; text < 14; text++) row.add((long) x.textTold(text, 0));
        for (int part = 0; part < 2; part++) row.add(x.mean(part));
        row.add((long) x.least());
        for (int slot = 0; slot < 5; slot++) {
            row.add((long) x.ask(slot, 0));
            row.add((long) x.rest(slot, 1000));
            for (int place = 0; place < 4; place++) row.add((long) x.item(slot, place));
        }
        for (int what = 0; what < 5; what++) row.add((long) x.well(what, 5));
        for (int sheet = 0; sheet < 4; sheet++) {
            row.add((long) x.lay(4, 2, sheet));
            for (int place = 0; place < 5; place++) row.add((long) x.item(4, place));
            row.add((long) x.mark(sheet, 0, NONE));
        }
        row.add((long) x.check(2));
        row.add((long) x.text());
        row.add((long) x.fine(0));
        row.add((long) x.back());
        row.addAll(state(x));
        row.add((long) x.count(8));
        return row;
    }

    private static List<Long> state(ShyWell x) {
        List<Long> row = new ArrayList<>();
        for (int what = 0; what < 12; what++) row.add((long) x.count(what));
        for (int comer : new int[] {0, 1, 2, 3, 7}) for (int what = 0; what < 15; what++) row.add((long) x.told(comer, what));
        return row;
    }

    // ---- promises 2 to 9

    private static void comers() {
        past = Past.MIDST;
        ShyWell x = made();
        int[] where = {2, 1, 3, 0};
        for (int c = 0; c < 4; c++) Due.is("the midst of things: WHERE of " + c, x.told(c, 5), where[c]);
        Due.sentence("One more COMER: its number. BAD; FULL.");
        for (int v : new int[] {-1, 6, LOW, HIGH}) refused("comer(" + v + ", 0, 1, 0)", BAD, y -> y.comer(v, 0, 1, 0));
        for (int v : new int[] {-1, 60, LOW, HIGH}) refused("comer(0, " + v + ", 1, 0)", BAD, y -> y.comer(0, v, 1, 0));
        for (int v : new int[] {0, -1, 31, LOW, HIGH}) refused("comer(0, 0, " + v + ", 0)", BAD, y -> y.comer(0, 0, v, 0));
        for (int v : new int[] {-1, 10, LOW, HIGH}) refused("comer(0, 0, 1, " + v + ")", BAD, y -> y.comer(0, 0, 1, v));
        past = Past.FULL;
        refused("the ninth", FULL, y -> y.comer(0, 0, 1, 0));
        refused("the ninth, BAD by its kind", BAD, y -> y.comer(6, 0, 1, 0));
        refused("the ninth, BAD by its need", BAD, y -> y.comer(0, 0, 1, 10));
        past = Past.MIDST;
        Due.sentence("whether it WOULD LEAVE (1, 0), 14 STAYS. BAD.");
        for (int c : new int[] {-1, 4, 8, LOW, HIGH}) refused("told(" + c + ", 0)", BAD, y -> y.told(c, 0));
        for (int w : new int[] {-1, 15, LOW, HIGH}) refused("told(0, " + w + ")", BAD, y -> y.told(0, w));
        Due.sentence("BAD: comer, kind; KIND: it is not of that KIND, nor of one under it.");
        for (int c : new int[] {-1, 4, 8, LOW, HIGH}) refused("as(" + c + ", 0)", BAD, y -> y.as(c, 0));
        for (int k : new int[] {-1, 6, LOW, HIGH}) refused("as(0, " + k + ")", BAD, y -> y.as(0, k));
        refused("STUBBORN as GUESS", KIND, y -> y.as(0, 1));
        refused("GUESS as KNOWING, which is under it", KIND, y -> y.as(1, 3));
        refused("COMER as SHY", KIND, y -> y.as(2, 5));
        refused("nobody as SHY", BAD, y -> y.as(4, 5));
        Due.sentence("A COMER is of another KIND from now on: what it was. BAD.");
        for (int c : new int[] {-1, 4, 8, LOW, HIGH}) refused("turns(" + c + ", 0)", BAD, y -> y.turns(c, 0));
        for (int k : new int[] {-1, 6, LOW, HIGH}) refused("turns(0, " + k + ")", BAD, y -> y.turns(0, k));
    }

    private static void habits() {
        past = Past.MIDST;
        Due.sentence("A, AWAY, NEED, WANT (what 1 .. 4) of a COMER becomes v: what it was. BAD.");
        int[] least = {0, 0, 1, 0, 0}, most = {0, 59, 30, 9, 9};
        for (int what = 1; what <= 4; what++) {
            int w = what;
            for (int v : new int[] {least[w] - 1, most[w] + 1, LOW, HIGH}) refused("set(0, " + w + ", " + v + ")", BAD, y -> y.set(0, w, v));
        }
        for (int w : new int[] {0, 5, -1, LOW, HIGH}) refused("set(0, " + w + ", 1)", BAD, y -> y.set(0, w, 1));
        for (int c : new int[] {-1, 4, 8, LOW, HIGH}) refused("set(" + c + ", 1, 1)", BAD, y -> y.set(c, 1, 1));
    }

    private static void theWell() {
        past = Past.MIDST;
        Due.sentence("QUARTER (what 0), MOST (1), WATER (2), BUCKET (3), FORGETS (4) becomes v: what it was. BAD.");
        int[] least = {1, 0, 0, 1, 0}, most = {60, 99, 99, 9, 100};
        for (int what = 0; what < 5; what++) {
            int w = what;
            for (int v : new int[] {least[w] - 1, most[w] + 1, LOW, HIGH}) refused("well(" + w + ", " + v + ")", BAD, y -> y.well(w, v));
        }
        for (int w : new int[] {-1, 5, LOW, HIGH}) refused("well(" + w + ", 1)", BAD, y -> y.well(w, 1));
        Due.sentence("COMERS are drawn, n (1 .. 8) of them, as many as there is room for (no draws for others): how many came. BAD.");
        for (int n : new int[] {0, -1, 9, LOW, HIGH}) refused("deal(" + n + ")", BAD, y -> y.deal(n));
        past = Past.FULL;
        for (int n : new int[] {0, 9}) refused("deal(" + n + ") where there is no room", BAD, y -> y.deal(n));
        refused("deal(8) where there is no room is none, but not refused", 0, y -> y.deal(8));
    }

    // ---- promises 10 to 17

    private static void minutes() {
        past = Past.MIDST;
        Due.sentence("n (1 .. 300) MINUTES go by (no more than up to 99999): GOT of all, together. BAD.");
        for (int n : new int[] {0, -1, 301, LOW, HIGH}) refused("run(" + n + ")", BAD, y -> y.run(n));
        Due.sentence("MEAN WAIT: above (part 0), below the line (1). BAD.");
        for (int p : new int[] {-1, 2, LOW, HIGH}) refused("mean(" + p + ")", -1000000001L, y -> y.mean(p));
        Due.sentence("What fine gives for a COMER. BAD.");
        for (int c : new int[] {-1, 4, 8, LOW, HIGH}) refused("fine(" + c + ")", BAD, y -> y.fine(c));
        past = Past.NEW;
        refused("fine(0) of nobody", BAD, y -> y.fine(0));
        Due.sentence("LEAST. NONE: there are no COMERS.");
        refused("least()", NONE, y -> y.least());
    }

    private static void thoughts() {
        past = Past.MIDST;
        Due.sentence("BEHIND n (0 .. 300) MINUTES: what 0 WATER, 1 GOT, 2 EMPTY, 3 in how many somebody STANDS. BAD.");
        for (int n : new int[] {-1, 301, LOW, HIGH}) refused("behind(" + n + ", 0)", BAD, y -> y.behind(n, 0));
        for (int w : new int[] {-1, 4, LOW, HIGH}) refused("behind(1, " + w + ")", BAD, y -> y.behind(1, w));
        Due.sentence("FULL IN for k (0 .. 99). BAD; NONE.");
        for (int k : new int[] {-1, 100, LOW, HIGH}) refused("fullIn(" + k + ")", BAD, y -> y.fullIn(k));
        for (int k : new int[] {21, 99}) refused("fullIn(" + k + ")", NONE, y -> y.fullIn(k));
        Due.sentence("BEST HABIT of a COMER for n (1 .. 120) MINUTES: what 0 A, 1 GOT then. BAD.");
        for (int c : new int[] {-1, 4, 8, LOW, HIGH}) refused("best(" + c + ", 1, 0)", BAD, y -> y.best(c, 1, 0));
        for (int n : new int[] {0, -1, 121, LOW, HIGH}) refused("best(0, " + n + ", 0)", BAD, y -> y.best(0, n, 0));
        for (int w : new int[] {-1, 2, LOW, HIGH}) refused("best(0, 1, " + w + ")", BAD, y -> y.best(0, 1, w));
        Due.sentence("ALONE of a COMER for n (1 .. 300) MINUTES. BAD.");
        for (int c : new int[] {-1, 4, 8, LOW, HIGH}) refused("alone(" + c + ", 1)", BAD, y -> y.alone(c, 1));
        for (int n : new int[] {0, -1, 301, LOW, HIGH}) refused("alone(0, " + n + ")", BAD, y -> y.alone(0, n));
    }

    // ---- promises 18 to 22

    private static void tape() {
        past = Past.FULL;
        Due.sentence("how many it has. FULL: it would have more than 96.");
        refused("feed behind 96 bytes", FULL, y -> y.feed(1, 2, 3));
        Due.sentence("THE TAPE keeps its first n bytes: n. BAD.");
        for (int n : new int[] {-1, 97, LOW, HIGH}) refused("trim(" + n + ") of 96 bytes", BAD, y -> y.trim(n));
        past = Past.MIDST;
        for (int n : new int[] {-1, TAPE.length() + 1, 96, HIGH}) refused("trim(" + n + ") of 9 bytes", BAD, y -> y.trim(n));
        past = Past.NEW;
        for (int n : new int[] {-1, 1}) refused("trim(" + n + ") of none", BAD, y -> y.trim(n));
    }

    private static void texts() {
        past = Past.MIDST;
        Due.sentence("THE TAPE is a TEXT: its number. -100 less the place of its FAULT; FULL.");
        refusedAndUsedUp("a fault at 5", -105, "fine z");
        refusedAndUsedUp("a fault at the end", -106, "fine !");
        refusedAndUsedUp("nothing", -100, "");
        past = Past.FULL;
        refusedAndUsedUp("the fifteenth", FULL, "fine 7");
        refusedAndUsedUp("the fifteenth, and a fault", -105, "fine )");
        past = Past.MIDST;
        Due.sentence("what 0 KEY (0 leave, 1 stay, 2 fine), 1 how many NUMBERS and NAMES it has. BAD.");
        for (int t : new int[] {-1, 2, 14, LOW, HIGH}) refused("textTold(" + t + ", 0)", BAD, y -> y.textTold(t, 0));
        for (int w : new int[] {-1, 2, LOW, HIGH}) refused("textTold(0, " + w + ")", BAD, y -> y.textTold(0, w));
        Due.sentence("The TEXT that counts for a KEY. BAD; NONE.");
        for (int k : new int[] {-1, 3, LOW, HIGH}) refused("why(" + k + ")", BAD, y -> y.why(k));
        refused("why(2)", NONE, y -> y.why(2));
    }

    private static void refusedAndUsedUp(String what, long due, String tape) {
        ShyWell asked = made(), other = made();
        asked.trim(0);
        Due.lay(asked, tape);
        Due.is(what + ": text()", asked.text(), due);
        Due.is(what + ": the bytes then", asked.count(10), 0);
        other.trim(0);
        same(what, asked, other);
    }

    // ---- promises 23 to 27

    private static void sheets() {
        past = Past.MIDST;
        Due.sentence("n (0). BAD: sheet, sort, n above 24; SIZE.");
        for (int s : new int[] {-1, 4, LOW, HIGH}) {
            refused("sheet(" + s + ", 0, 1)", BAD, y -> y.sheet(s, 0, 1));
            refused("sheet(" + s + ", 0, -1)", BAD, y -> y.sheet(s, 0, -1));
            refused("sheet(" + s + ", -1, 0)", BAD, y -> y.sheet(s, -1, 0));
        }
        for (int s : new int[] {-2, 2, LOW, HIGH}) {
            refused("sheet(0, " + s + ", 1)", BAD, y -> y.sheet(0, s, 1));
            refused("sheet(0, " + s + ", -1)", BAD, y -> y.sheet(0, s, -1));
        }
        for (int sort : new int[] {0, 1}) {
            for (int n : new int[] {25, HIGH}) refused("sheet(0, " + sort + ", " + n + ")", BAD, y -> y.sheet(0, sort, n));
            for (int n : new int[] {-1, LOW}) refused("sheet(0, " + sort + ", " + n + ")", SIZE, y -> y.sheet(0, sort, n));
        }
        Due.sentence("how many are otherwise then. BAD; NOTHING.");
        for (int s : new int[] {-1, 4, LOW, HIGH}) refused("pour(" + s + ")", BAD, y -> y.pour(s));
        for (int s : new int[] {2, 3}) refused("pour(" + s + ")", NOTHING, y -> y.pour(s));
        Due.sentence("what 0 the QUARTER, 1 the differences, together. BAD; NOTHING.");
        for (int s : new int[] {-1, 4, LOW, HIGH}) refused("explained(" + s + ", 0)", BAD, y -> y.explained(s, 0));
        for (int w : new int[] {-1, 2, LOW, HIGH}) {
            refused("explained(0, " + w + ")", BAD, y -> y.explained(0, w));
            refused("explained(2, " + w + ")", BAD, y -> y.explained(2, w));
        }
        for (int w : new int[] {0, 1}) refused("explained(2, " + w + ")", NOTHING, y -> y.explained(2, w));
    }

    private static void places() {
        past = Past.MIDST;
        Due.sentence("BAD: sheet; NOTHING; INDEX; KIND: NONE in a row of shorts; BAD: v of floats.");
        for (int s : new int[] {-1, 4, LOW, HIGH}) refused("mark(" + s + ", 99, NONE)", BAD, y -> y.mark(s, 99, NONE));
        refused("mark(2, 0, 0)", NOTHING, y -> y.mark(2, 0, 0));
        refused("mark(2, -1, NONE)", NOTHING, y -> y.mark(2, -1, NONE));
        for (int p : new int[] {-1, 3, 24, LOW, HIGH}) {
            refused("mark(0, " + p + ", 1)", INDEX, y -> y.mark(0, p, 1));
            refused("mark(0, " + p + ", NONE)", INDEX, y -> y.mark(0, p, NONE));
        }
        for (int p : new int[] {-1, 4, 24, LOW, HIGH}) {
            refused("mark(1, " + p + ", 1)", INDEX, y -> y.mark(1, p, 1));
            refused("mark(1, " + p + ", 100000)", INDEX, y -> y.mark(1, p, 100000));
        }
        refused("mark(0, 0, NONE)", KIND, y -> y.mark(0, 0, NONE));
        for (int v : new int[] {100000, -100000, NONE + 1, NONE - 1, LOW, HIGH}) refused("mark(1, 0, " + v + ")", BAD, y -> y.mark(1, 0, v));
    }

    private static void copies() {
        past = Past.MIDST;
        Due.sentence("as they were: many. BAD; NOTHING; KIND: they are not of one sort; INDEX.");
        for (int s : new int[] {-1, 4, LOW, HIGH}) {
            refused("copy(" + s + ", 0, 0, 0, 1)", BAD, y -> y.copy(s, 0, 0, 0, 1));
            refused("copy(0, 0, " + s + ", 0, 1)", BAD, y -> y.copy(0, 0, s, 0, 1));
            refused("copy(" + s + ", 0, 2, 0, 1)", BAD, y -> y.copy(s, 0, 2, 0, 1));
            refused("copy(2, 0, " + s + ", 0, 1)", BAD, y -> y.copy(2, 0, s, 0, 1));
        }
        refused("from a MISSING one", NOTHING, y -> y.copy(2, 0, 0, 0, 1));
        refused("to a MISSING one", NOTHING, y -> y.copy(1, 0, 2, 0, 1));
        refused("no place of a MISSING one", NOTHING, y -> y.copy(2, -1, 3, 99, -1));
        refused("shorts to floats", KIND, y -> y.copy(0, 0, 1, 0, 1));
        refused("floats to shorts", KIND, y -> y.copy(1, 0, 0, 0, 0));
        refused("no place of another sort", KIND, y -> y.copy(0, 99, 1, -1, -1));
        int[][] wrong = {{-1, 0, 1}, {0, -1, 1}, {3, 0, 1}, {0, 3, 1}, {4, 0, 0}, {0, 4, 0}, {-1, 0, 0}, {0, -1, 0}, {0, 0, 4}, {1, 0, 3}, {0, 1, 3},
            {2, 0, 2}, {0, 0, -1}, {1, 1, -1}, {LOW, 0, 1}, {0, LOW, 1}, {0, 0, LOW}, {HIGH, 0, 1}, {0, HIGH, 1}, {0, 0, HIGH}, {1, 1, HIGH}, {HIGH, HIGH, HIGH}};
        for (int[] w : wrong) refused("copy(0, " + w[0] + ", 0, " + w[1] + ", " + w[2] + ")", INDEX, y -> y.copy(0, w[0], 0, w[1], w[2]));
    }

    // ---- promises 28 to 31

    private static void slots() {
        past = Past.MIDST;
        Due.sentence("what it held (0 .. 3). BAD: slot, thing, k; NOTHING: that SHEET is MISSING.");
        for (int s : new int[] {-1, 5, LOW, HIGH}) {
            refused("lay(" + s + ", 3, 0)", BAD, y -> y.lay(s, 3, 0));
            refused("lay(" + s + ", 2, 2)", BAD, y -> y.lay(s, 2, 2));
        }
        for (int t : new int[] {-1, 4, LOW, HIGH}) refused("lay(0, " + t + ", 0)", BAD, y -> y.lay(0, t, 0));
        for (int k : new int[] {-1, 4, 8, LOW, HIGH}) refused("lay(0, 1, " + k + ")", BAD, y -> y.lay(0, 1, k));
        for (int k : new int[] {-1, 4, LOW, HIGH}) refused("lay(1, 2, " + k + ")", BAD, y -> y.lay(1, 2, k));
        for (int slot = 0; slot < 5; slot++) {
            int s = slot;
            refused("lay(" + s + ", 2, 2)", NOTHING, y -> y.lay(s, 2, 2));
        }
    }

    private static void slotsAsked() {
        past = Past.MIDST;
        Due.sentence("BAD; NOTHING; KIND: it is no COMER, or not of that KIND, nor of one under it.");
        for (int s : new int[] {-1, 5, LOW, HIGH}) refused("ask(" + s + ", 0)", BAD, y -> y.ask(s, 0));
        for (int k : new int[] {-1, 6, LOW, HIGH}) {
            for (int s : new int[] {0, 1, 3}) refused("ask(" + s + ", " + k + ")", BAD, y -> y.ask(s, k));
        }
        refused("nothing", NOTHING, y -> y.ask(3, 0));
        refused("a SHEET", KIND, y -> y.ask(1, 0));
        refused("a number", KIND, y -> y.ask(2, 0));
        for (int k : new int[] {1, 3, 5}) refused("STUBBORN for " + k, KIND, y -> y.ask(0, k));
        Due.sentence("BAD: slot; NOTHING; KIND: it is no SHEET; INDEX; KIND: NO NUMBER.");
        for (int s : new int[] {-1, 5, LOW, HIGH}) refused("item(" + s + ", 0)", BAD, y -> y.item(s, 0));
        for (int p : new int[] {0, -1, HIGH}) {
            refused("nothing, place " + p, NOTHING, y -> y.item(3, p));
            refused("a COMER, place " + p, KIND, y -> y.item(0, p));
            refused("a number, place " + p, KIND, y -> y.item(2, p));
        }
        for (int p : new int[] {-1, 4, 24, LOW, HIGH}) refused("item(1, " + p + ")", INDEX, y -> y.item(1, p));
        refused("NO NUMBER", KIND, y -> y.item(1, 0));
        Due.sentence("BAD: slot; NOTHING; KIND: it is no number; NO: n is 0.");
        for (int n : new int[] {0, 1}) {
            for (int s : new int[] {-1, 5, LOW, HIGH}) refused("rest(" + s + ", " + n + ")", BAD, y -> y.rest(s, n));
            refused("nothing, by " + n, NOTHING, y -> y.rest(3, n));
            refused("a COMER, by " + n, KIND, y -> y.rest(0, n));
            refused("a SHEET, by " + n, KIND, y -> y.rest(1, n));
        }
        refused("rest(2, 0)", NO, y -> y.rest(2, 0));
    }

    // ---- promises 32 to 36

    private static void rows() {
        past = Past.FULL;
        Due.sentence("One more number waits: how many. FULL: 60 wait.");
        for (int v : new int[] {0, LOW, HIGH}) refused("tell(" + v + ")", FULL, y -> y.tell(v));
        past = Past.MIDST;
        Due.sentence("(none do then, whatever is answered)");
        for (int n : new int[] {0, -1, 31, LOW, HIGH}) noneWaitThen("check(" + n + ")", BAD, n);
        past = Past.NEW;
        Due.sentence("BAD; NO: there is no IMAGE.");
        for (int n : new int[] {1, 30}) noneWaitThen("check(" + n + ")", NO, n);
        for (int n : new int[] {0, 31}) noneWaitThen("check(" + n + ") without an IMAGE", BAD, n);
        past = Past.MIDST;
        Due.sentence("10 bytes of THE TAPE, 11 z. BAD.");
        for (int w : new int[] {-1, 12, LOW, HIGH}) refused("count(" + w + ")", BAD, y -> y.count(w));
    }

    /** The other one has its numbers taken by a check that is not refused, or never had any. */
    private static void noneWaitThen(String call, long due, int n) {
        ShyWell asked = made(), other = made();
        if (past == Past.NEW) asked.tell(3);
        else Due.is("the numbers are true", other.check(2), 0);
        Due.is(call, asked.check(n), due);
        Due.is(call + ": how many wait", asked.count(9), 0);
        same(call, asked, other);
    }

    private static void images() {
        past = Past.NEW;
        Due.sentence("All is as THE IMAGE: how many COMERS. NO: there is none.");
        refused("back()", NO, y -> y.back());
        ShyWell x = new ShyWell();
        x.deal(3);
        x.run(50);
        Due.is("back() with comers", x.back(), NO);
        Due.is("they are there yet", x.count(0), 3);
        Due.is("and so is their minute", x.count(2), 50);
    }
}
