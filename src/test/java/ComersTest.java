/** Promises 1 to 9: a new object, comers, the well. */
public final class ComersTest {
    private static final int BAD = ShyWell.BAD, NONE = ShyWell.NONE;

    public static void main(String[] args) {
        newObject();
        comer();
        told();
        wouldLeave();
        stays();
        worth();
        as();
        turns();
        set();
        well();
        deal();
        seed();
        Due.end();
    }

    private static void newObject() {
        ShyWell x = new ShyWell();
        int[] counts = {0, 0, 0, 3, 0, 0, 0, 0, 0, 0, 0, 1};
        for (int i = 0; i < counts.length; i++) Due.is("new: count(" + i + ")", x.count(i), counts[i]);
        int[] well = {15, 9, 3, 1, 0};
        for (int i = 0; i < well.length; i++) Due.is("new: well(" + i + ")", x.well(i, well[i]), well[i]);
        for (int i = 0; i < 3; i++) Due.is("new: why(" + i + ")", x.why(i), NONE);
        for (int i = 0; i < 4; i++) Due.is("new: mark(" + i + ")", x.mark(i, 0, 0), ShyWell.NOTHING);
        for (int i = 0; i < 5; i++) Due.is("new: item(" + i + ")", x.item(i, 0), ShyWell.NOTHING);
        Due.is("new: back()", x.back(), ShyWell.NO);
        Due.is("new: least()", x.least(), NONE);
        Due.is("new: told(0, 0)", x.told(0, 0), BAD);
        Due.is("new: text()", x.text(), -100);
        ShyWell y = new ShyWell();
        x.comer(0, 0, 1, 1);
        x.run(20);
        Due.is("another object has its own comers", y.count(0), 0);
        Due.is("another object has its own minutes", y.count(2), 0);
    }

    private static void comer() {
        ShyWell x = new ShyWell();
        int[][] wrong = {{-1, 0, 1, 0}, {6, 0, 1, 0}, {0, -1, 1, 0}, {0, 60, 1, 0}, {0, 0, 0, 0}, {0, 0, 31, 0}, {0, 0, 1, -1}, {0, 0, 1, 10}};
        for (int[] w : wrong) Due.is("comer out of bounds", x.comer(w[0], w[1], w[2], w[3]), BAD);
        Due.is("refused comers do not come", x.count(0), 0);
        Due.is("comer at the lower edges", x.comer(0, 0, 1, 0), 0);
        Due.is("comer at the upper edges", x.comer(5, 59, 30, 9), 1);
        for (int i = 2; i < 8; i++) Due.is("comer " + i, x.comer(i % 6, i, i, i), i);
        Due.is("the ninth comer", x.comer(0, 0, 1, 0), ShyWell.FULL);
        Due.is("BAD stands ahead of FULL", x.comer(6, 0, 1, 0), BAD);
        Due.is("still eight", x.count(0), 8);
    }

    private static void told() {
        ShyWell x = new ShyWell();
        x.comer(3, 7, 4, 6);
        int[] fresh = {3, 7, 4, 6, 6, 0, 0, 0, 0, 0, 0, 0, 20, 0, 0};
        for (int i = 0; i < fresh.length; i++) Due.is("fresh: told(0, " + i + ")", x.told(0, i), fresh[i]);
        for (int w : new int[] {-1, 15, Integer.MIN_VALUE, Integer.MAX_VALUE}) Due.is("told(0, " + w + ")", x.told(0, w), BAD);
        for (int c : new int[] {-1, 1, 8, Integer.MIN_VALUE, Integer.MAX_VALUE}) Due.is("told(" + c + ", 0)", x.told(c, 0), BAD);
    }

    private static void wouldLeave() {
        ShyWell x = new ShyWell();
        for (int kind = 0; kind < 6; kind++) x.comer(kind, 2, 30, 0);
        int[][] due = {{0, 0, 0, 0, 0, 0}, {0, 0, 0, 0, 0, 0}, {1, 1, 1, 1, 1, 1}, {0, 1, 0, 1, 0, 0}};
        for (int minute = 0; minute < 4; minute++) {
            for (int c = 0; c < 6; c++) Due.is("minute " + minute + ": told(" + c + ", 13)", x.told(c, 13), due[minute][c]);
            x.run(1);
        }
        x.well(2, 0);
        Due.is("GUESS does not ask for water", x.told(1, 13), 1);
        Due.is("KNOWING wants water", x.told(3, 13), 0);
        x.well(2, 1);
        Due.is("a bucket is enough", x.told(3, 13), 1);
        x.well(2, 0);
        x.run(58);
        x.well(2, 0);
        Due.is("the hour comes again for a COMER", x.told(0, 13), 1);
        Due.text(x, "leave t = 62 & s = 62 & a = 2");
        int[] byLaw = {1, 1, 1, 0, 1, 1};
        for (int c = 0; c < 6; c++) Due.is("by leave: told(" + c + ", 13)", x.told(c, 13), byLaw[c]);
        Due.text(x, "leave 0-5");
        Due.is("below 0 is not 0", x.told(0, 13), 1);
        Due.text(x, "leave 0");
        int[] never = {0, 1, 0, 0, 0, 0};
        for (int c = 0; c < 6; c++) Due.is("by leave 0: told(" + c + ", 13)", x.told(c, 13), never[c]);
        shyOfStanders();
        tIsOfTheDay();
    }

    private static void shyOfStanders() {
        ShyWell x = new ShyWell();
        x.well(2, 0);
        x.comer(2, 9, 1, 1);
        x.comer(5, 9, 1, 0);
        x.comer(0, 9, 1, 0);
        x.turns(1, 0);
        Due.text(x, "leave 1");
        x.turns(1, 5);
        Due.is("SHY would leave while nobody stands", x.told(1, 13), 1);
        x.run(1);
        Due.is("one stands", x.count(1), 1);
        Due.is("SHY stays away from one that stands", x.told(1, 13), 0);
        Due.is("COMER does not mind", x.told(2, 13), 1);
    }

    private static void tIsOfTheDay() {
        ShyWell x = new ShyWell();
        x.comer(0, 0, 1, 0);
        Due.text(x, "leave t=1");
        for (int i = 0; i < 5; i++) x.run(288);
        Due.is("t is 0 as the day begins", x.told(0, 13), 0);
        x.run(1);
        Due.is("t is 1 a minute on", x.told(0, 13), 1);
    }

    private static void stays() {
        ShyWell x = new ShyWell();
        for (int kind = 0; kind < 6; kind++) x.comer(kind, 5, 1, 1);
        int[][] due = {{0, 0, 5, 0, 10, 0}, {7, 7, 12, 7, 24, 7}, {99, 99, 104, 99, 208, 99}, {0, 0, 5, 0, 10, 0}, {8, 8, 13, 8, 26, 8}};
        String[] laws = {"", "stay 7", "stay 9999", "stay 0-1", "stay a+w+n"};
        for (int i = 0; i < laws.length; i++) {
            if (i > 0) Due.text(x, laws[i]);
            for (int c = 0; c < 6; c++) Due.is(laws[i] + ": told(" + c + ", 14)", x.told(c, 14), due[i][c]);
        }
        x.well(2, 0);
        Due.text(x, "leave 1");
        Due.text(x, "stay 20+n");
        Due.is("n is 0", x.told(0, 14), 20);
        x.set(1, 4, 0);
        x.set(3, 4, 0);
        x.run(1);
        Due.is("four stand", x.count(1), 4);
        Due.is("n is 4", x.told(0, 14), 24);
    }

    private static void worth() {
        ShyWell x = new ShyWell();
        for (int kind = 0; kind < 6; kind++) x.comer(kind, 11, 1, 1);
        int[] due = {11, 14, 49, 28, 44, 30};
        for (int c = 0; c < 6; c++) Due.is("told(" + c + ", 12)", x.told(c, 12), due[c]);
        x.set(4, 1, 59);
        Due.is("worth may be below 0", x.told(4, 12), -4);
    }

    private static void as() {
        ShyWell x = new ShyWell();
        int[] kinds = {0, 1, 2, 3, 4, 5};
        String[] under = {"0", "01", "02", "013", "024", "05"};
        for (int k : kinds) x.comer(k, 10 + k, 1, 1);
        for (int c : kinds) {
            for (int k : kinds) {
                boolean fits = under[c].indexOf((char) ('0' + k)) >= 0;
                Due.is("as(" + c + ", " + k + ")", x.as(c, k), fits ? 10 + c : ShyWell.KIND);
            }
        }
        for (int w : new int[] {-1, 6}) {
            Due.is("as(" + w + ", 0)", x.as(w, 0), BAD);
            Due.is("as(0, " + w + ")", x.as(0, w), BAD);
        }
    }

    private static void turns() {
        ShyWell x = new ShyWell();
        x.comer(1, 10, 1, 5);
        Due.is("turns(0, 4)", x.turns(0, 4), 1);
        Due.is("it is of another kind", x.told(0, 0), 4);
        Due.is("worth as its kind's", x.told(0, 12), 45);
        Due.is("stays as its kind's", x.told(0, 14), 20);
        Due.is("as its new kind", x.as(0, 2), 10);
        Due.is("not as its old one", x.as(0, 1), ShyWell.KIND);
        Due.is("turns to the same", x.turns(0, 4), 4);
        for (int w : new int[] {-1, 6}) Due.is("turns(0, " + w + ")", x.turns(0, w), BAD);
        for (int w : new int[] {-1, 1}) Due.is("turns(" + w + ", 0)", x.turns(w, 0), BAD);
        Due.is("refused: as it was", x.told(0, 0), 4);
    }

    private static void set() {
        ShyWell x = new ShyWell();
        x.comer(0, 5, 6, 7);
        int[] was = {0, 5, 6, 7, 7}, least = {0, 0, 1, 0, 0}, most = {0, 59, 30, 9, 9};
        for (int what = 1; what <= 4; what++) {
            String call = "set(0, " + what + ", ";
            Due.is(call + "below)", x.set(0, what, least[what] - 1), BAD);
            Due.is(call + "above)", x.set(0, what, most[what] + 1), BAD);
            Due.is(call + "least)", x.set(0, what, least[what]), was[what]);
            Due.is(call + "most)", x.set(0, what, most[what]), least[what]);
            Due.is("told(0, " + what + ")", x.told(0, what), most[what]);
        }
        x.set(0, 3, 2);
        Due.is("NEED leaves WANT alone", x.told(0, 4), 9);
        for (int what : new int[] {-1, 0, 5, 6, Integer.MAX_VALUE}) Due.is("set(0, " + what + ", 1)", x.set(0, what, 1), BAD);
        for (int c : new int[] {-1, 1, 8}) Due.is("set(" + c + ", 1, 1)", x.set(c, 1, 1), BAD);
    }

    private static void well() {
        ShyWell x = new ShyWell();
        int[] first = {15, 9, 3, 1, 0}, least = {1, 0, 0, 1, 0}, most = {60, 99, 99, 9, 100};
        for (int what = 0; what < 5; what++) {
            String call = "well(" + what + ", ";
            Due.is(call + "below)", x.well(what, least[what] - 1), BAD);
            Due.is(call + "above)", x.well(what, most[what] + 1), BAD);
            Due.is(call + "least)", x.well(what, least[what]), first[what]);
            Due.is(call + "most)", x.well(what, most[what]), least[what]);
            Due.is(call + "again)", x.well(what, most[what]), most[what]);
        }
        Due.is("WATER is told", x.count(3), 99);
        for (int what : new int[] {-1, 5, Integer.MIN_VALUE}) Due.is("well(" + what + ", 1)", x.well(what, 1), BAD);
    }

    private static void deal() {
        ShyWell x = new ShyWell();
        for (int n : new int[] {0, -1, 9, Integer.MAX_VALUE}) Due.is("deal(" + n + ")", x.deal(n), BAD);
        Due.is("refused: z as it was", x.count(11), 1);
        x.comer(2, 1, 1, 1);
        Due.is("deal(2)", x.deal(2), 2);
        int z = 1;
        for (int c = 1; c < 3; c++) {
            int[] by = {6, 60, 30, 10}, plus = {0, 0, 1, 0};
            for (int what = 0; what < 4; what++) {
                z = z * 1103515245 + 12345;
                Due.is("dealt: told(" + c + ", " + what + ")", x.told(c, what), plus[what] + (z >>> 8) % by[what]);
            }
            Due.is("dealt: WANT is NEED", x.told(c, 4), x.told(c, 3));
        }
        Due.is("four draws each", x.count(11), z);
        Due.is("deal(8) into room for five", x.deal(8), 5);
        for (int i = 0; i < 20; i++) z = z * 1103515245 + 12345;
        Due.is("no draws for others", x.count(11), z);
        Due.is("deal(1) into no room", x.deal(1), 0);
        Due.is("no draws at all", x.count(11), z);
    }

    private static void seed() {
        ShyWell x = new ShyWell();
        Due.is("seed(MIN)", x.seed(Integer.MIN_VALUE), 1);
        Due.is("seed(5)", x.seed(5), Integer.MIN_VALUE);
        Due.is("z is told", x.count(11), 5);
    }
}
