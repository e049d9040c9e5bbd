/** Promises 18 to 22: the tape, texts, what they give and which of them count. */
public final class TextsTest {
    private static final int BAD = ShyWell.BAD, NONE = ShyWell.NONE;

    public static void main(String[] args) {
        feed();
        trim();
        sound();
        faults();
        nesting();
        values();
        numbersOfTexts();
        fullOfTexts();
        textTold();
        why();
        Due.end();
    }

    private static void feed() {
        ShyWell x = new ShyWell();
        for (int i = 1; i <= 8; i++) Due.is("feed " + i, x.feed(0x66696e65, 0x20323033, 0x2b312020), 12 * i);
        Due.is("it would have more than 96", x.feed(0, 0, 0), ShyWell.FULL);
        Due.is("refused: 96 bytes", x.count(10), 96);
        x.trim(12);
        Due.is("the bytes came the highest first", x.text(), 0);
        x.comer(0, 0, 1, 1);
        Due.is("fine 203+1", x.fine(0), 204);
        x.feed(0, 0, 0);
        x.trim(1);
        for (int i = 0; i < 6; i++) x.feed(0, 0, 0);
        Due.is("73 bytes and 12", x.feed(0, 0, 0), 85);
        Due.is("85 bytes and 12", x.feed(0, 0, 0), ShyWell.FULL);
    }

    private static void trim() {
        ShyWell x = new ShyWell();
        Due.is("trim(0) of nothing", x.trim(0), 0);
        Due.is("trim(1) of nothing", x.trim(1), BAD);
        x.feed(1, 2, 3);
        for (int n : new int[] {-1, 13, Integer.MIN_VALUE, Integer.MAX_VALUE}) Due.is("trim(" + n + ")", x.trim(n), BAD);
        Due.is("refused: 12 bytes", x.count(10), 12);
        Due.is("trim(12)", x.trim(12), 12);
        Due.is("trim(5)", x.trim(5), 5);
        Due.is("trim(6) then", x.trim(6), BAD);
        Due.is("5 bytes", x.count(10), 5);
        x.trim(0);
        Due.lay(x, "fine 12junk");
        x.trim(7);
        Due.is("what is cut off is not read", x.text(), 0);
    }

    private static void sound() {
        String[] texts = {"leave t", "leave(t)", "leave!t", "  leave   t  ", "stay a+w*n", "stay(a|w)&n", "fine g-e/2", "fine 0", "fine 9999",
            "leave t<s=0", "leave (t<s)=0", "leave !!t", "fine((g))", "leave t<1&s>2|a=3", "fine ! ( g )", "fine 0000"};
        boolean[] isSound = new boolean[texts.length];
        java.util.Arrays.fill(isSound, true);
        isSound[9] = false;
        for (int i = 0; i < texts.length; i++) {
            ShyWell x = new ShyWell();
            Due.holds("'" + texts[i] + "' is sound", (Due.text(x, texts[i]) == 0) == isSound[i]);
        }
        ShyWell x = new ShyWell();
        String longest = "fine " + "1+".repeat(45) + "1";
        Due.is("a text of 96 bytes", longest.length(), 96);
        Due.is("it is read whole", Due.text(x, longest), 0);
        x.comer(0, 0, 1, 1);
        Due.is("and gives", x.fine(0), 46);
    }

    private static void fault(String text, int place) {
        ShyWell x = new ShyWell();
        Due.is("'" + text + "'", Due.text(x, text), -100 - place);
        Due.is("'" + text + "' is used up", x.count(10), 0);
        Due.is("'" + text + "' is no text", x.count(8), 0);
    }

    private static void faults() {
        fault("", 0);
        fault("   ", 3);
        fault("leave", 5);
        fault("leave  ", 7);
        fault("leav t", 0);
        fault(" leaves t", 1);
        fault("Leave t", 0);
        fault("fineg", 0);
        fault("finez g", 0);
        fault("finea g", 0);
        fault("xeave t", 0);
        fault("leavx t", 0);
        fault("12 g", 0);
        fault("( leave t)", 0);
        fault("leave5", 5);
        fault("leave 5a", 7);
        fault("leave t5", 7);
        fault("leave t 5", 8);
        fault("leave tt", 6);
        fault("leave w", 6);
        fault("leave n", 6);
        fault("leave g", 6);
        fault("stay t", 5);
        fault("stay s", 5);
        fault("stay e", 5);
        fault("fine a", 5);
        fault("fine t", 5);
        fault("fine fine", 5);
        fault("fine 12345", 5);
        fault("fine g+00001", 7);
        fault("fine g +", 8);
        fault("fine g + ", 9);
        fault("fine +g", 5);
        fault("fine -1", 5);
        fault("fine g !", 7);
        fault("fine g!e", 6);
        fault("fine !", 6);
        fault("fine g<e<1", 8);
        fault("fine g=e>1", 8);
        fault("fine g<e+1=2", 10);
        fault("fine (g<e)<1<2", 12);
        fault("fine g<=e", 7);
        fault("fine g&&e", 7);
        fault("fine g||e", 7);
        fault("fine (g", 7);
        fault("fine (g e", 8);
        fault("fine g)", 6);
        fault("fine ()", 6);
        fault("fine (g))", 8);
        fault("fine (g)(e)", 8);
        fault("fine (g)e", 8);
        fault("fine g" + (char) 9 + "+e", 6);
        fault("fine g" + (char) 0, 6);
        fault("fine " + (char) 225, 5);
        fault("fine g.", 6);
        fault((char) 255 + "fine g", 0);
    }

    private static void nesting() {
        String open = "(".repeat(8), close = ")".repeat(8), nots = "!".repeat(8);
        ShyWell x = new ShyWell();
        Due.is("eight open", Due.text(x, "fine " + open + "g" + close), 0);
        fault("fine (" + open + "g)" + close, 13);
        Due.is("eight open, again and again", Due.text(x, "fine " + open + "g" + close + "+" + open + "g" + close), 1);
        Due.is("eight nots", Due.text(x, "fine " + nots + "g"), 2);
        fault("fine !" + nots + "g", 13);
        Due.is("nots that are behind one another", Due.text(x, "fine " + nots + "g+" + nots + "g&" + nots + "(g)"), 3);
        Due.is("eight of both", Due.text(x, "fine " + "!(".repeat(8) + "g" + close), 4);
        fault("fine " + "!(".repeat(8) + "!g" + close, 21);
        fault("fine " + "!(".repeat(8) + "(g)" + close, 21);
        fault("fine !!!!(!!!!g+!e+!!!!!g)", 23);
        Due.is("nots end with their piece", Due.text(x, "fine !!!!(!!!!g+!e+!!!!g)+!!!!!!!!g"), 5);
        fault("fine " + open + "(", 13);
        fault("fine " + open, 13);
        fault("fine " + nots, 13);
    }

    private static void gives(String expression, int value) {
        ShyWell x = new ShyWell();
        x.comer(0, 0, 1, 9);
        x.comer(0, 0, 1, 9);
        x.well(3, 3);
        x.run(1);
        // Comer 1 found it dry: g is 0, e is 1; comer 0 has g 3, e 0.
        Due.is("'" + expression + "' is sound", Due.text(x, "fine " + expression), 0);
        Due.is("'" + expression + "'", x.fine(0), value);
    }

    private static void values() {
        gives("7", 7);
        gives("0042", 42);
        gives("g", 3);
        gives("e", 0);
        gives("g*10+e", 30);
        gives("1+2*3", 7);
        gives("(1+2)*3", 9);
        gives("10-3-2", 5);
        gives("10-(3-2)", 9);
        gives("100/7/2", 7);
        gives("100/(7/2)", 33);
        gives("7*3/2", 10);
        gives("7/2*3", 9);
        gives("(0-7)/2", -3);
        gives("7/(0-2)", -3);
        gives("5/0", 0);
        gives("5/e+1", 1);
        gives("1+1<2", 0);
        gives("1<2+1", 1);
        gives("2<2", 0);
        gives("2=2", 1);
        gives("2=3", 0);
        gives("3>2", 1);
        gives("2>2", 0);
        gives("(0-1)<0", 1);
        gives("(1<2)=1", 1);
        gives("(3<2)<1", 1);
        gives("7&9", 1);
        gives("7&0", 0);
        gives("1&1", 1);
        gives("(0-1)&(0-1)", 1);
        gives("0|(0-1)", 1);
        gives("1|1", 1);
        gives("0&1", 0);
        gives("0|9", 1);
        gives("0|0", 0);
        gives("1|0&0", 1);
        gives("(1|0)&0", 0);
        gives("0&0|1", 1);
        gives("2&1=1", 1);
        gives("5|1=2", 1);
        gives("0|1=2", 0);
        gives("!0", 1);
        gives("!5", 0);
        gives("!!5", 1);
        gives("!(0-1)", 0);
        gives("!0+1", 2);
        gives("!0*5", 5);
        gives("!(0+1)", 0);
        gives("!1=0", 1);
        gives("1+!0", 2);
        gives("9999*9999*9999*9999", 9999 * 9999 * 9999 * 9999);
        gives("(0-8192*8192*32)/(0-1)", Integer.MIN_VALUE);
        gives("(0-8192*8192*32)-1", Integer.MAX_VALUE);
    }

    private static void numbersOfTexts() {
        ShyWell x = new ShyWell();
        Due.is("the first", Due.text(x, "leave 1"), 0);
        Due.is("a faulty one has no number", Due.text(x, "leave"), -105);
        Due.is("the second", Due.text(x, "leave 1"), 1);
        Due.is("two", x.count(8), 2);
        Due.is("nothing on the tape", x.text(), -100);
        Due.is("one that ends in a wrong word", Due.text(x, "leave w"), -106);
        Due.is("the next begins anew", Due.text(x, "leave t"), 2);
        Due.is("one that ends in a number too long", Due.text(x, "leave 12345"), -106);
        Due.is("the next begins anew", Due.text(x, "leave 1"), 3);
    }

    private static void fullOfTexts() {
        ShyWell x = new ShyWell();
        for (int i = 0; i < 14; i++) Due.is("text " + i, Due.text(x, "fine " + i), i);
        Due.is("one too many", Due.text(x, "fine 77"), ShyWell.FULL);
        Due.is("it is used up, too", x.count(10), 0);
        Due.is("a fault stands ahead", Due.text(x, "fine"), -104);
        Due.is("still fourteen", x.count(8), 14);
        Due.is("the last that was told counts", x.why(2), 13);
        x.comer(0, 0, 1, 0);
        Due.is("and gives", x.fine(0), 13);
        x.keep();
        x.back();
        Due.is("fourteen are kept", x.count(8), 14);
        Due.is("the last as it was", x.fine(0), 13);
    }

    private static void textTold() {
        ShyWell x = new ShyWell();
        Due.text(x, "leave t");
        Due.text(x, "stay (a+12)*w-n/!3");
        Due.text(x, "fine g<e&g<7|!g");
        int[][] due = {{0, 1}, {1, 5}, {2, 5}};
        for (int i = 0; i < 3; i++) {
            for (int what = 0; what < 2; what++) Due.is("textTold(" + i + ", " + what + ")", x.textTold(i, what), due[i][what]);
        }
        for (int t : new int[] {-1, 3, 14, Integer.MAX_VALUE}) Due.is("textTold(" + t + ", 0)", x.textTold(t, 0), BAD);
        for (int w : new int[] {-1, 2}) Due.is("textTold(0, " + w + ")", x.textTold(0, w), BAD);
    }

    private static void why() {
        ShyWell x = new ShyWell();
        for (int k : new int[] {-1, 3, Integer.MIN_VALUE}) Due.is("why(" + k + ")", x.why(k), BAD);
        Due.text(x, "fine 1");
        Due.text(x, "stay 1");
        Due.text(x, "fine 2");
        Due.is("no leave", x.why(0), NONE);
        Due.is("the stay", x.why(1), 1);
        Due.is("the last fine", x.why(2), 2);
        Due.text(x, "fine 3 3");
        Due.is("a faulty one does not count", x.why(2), 2);
    }
}
