/** The edges that section 4 of the document names, and promises 18 to 22 with them: a test for each sentence. */
public final class EdgesTextsTest {
    private static final int BAD = ShyWell.BAD, FULL = ShyWell.FULL, NONE = ShyWell.NONE;

    public static void main(String[] args) {
        fourteenTexts();
        usedUp();
        tapeBounds();
        highestFirst();
        trimBounds();
        keys();
        looseness();
        oneComparison();
        numbers();
        names();
        everyByteBehindAPiece();
        everyByteAheadOfAPiece();
        everyByteAtTheEnds();
        blanks();
        blankNeeded();
        ninthBracket();
        ninthNot();
        eachByItself();
        endTooSoon();
        firstFaultOnly();
        wrap();
        byNothing();
        truth();
        lastToldCounts();
        namedValues();
        keysTold();
        pieces();
        Due.end();
    }

    private static void reads(String text, int due) {
        ShyWell x = new ShyWell();
        Due.is("\"" + text + "\"", Due.text(x, text), due);
    }

    private static void faultAt(String text, int place) {
        reads(text, -100 - place);
    }

    private static void gives(String expression, int due) {
        ShyWell x = new ShyWell();
        x.comer(0, 0, 1, 0);
        Due.is("\"" + expression + "\" is a TEXT", Due.text(x, "fine " + expression), 0);
        Due.is("\"" + expression + "\"", x.fine(0), due);
    }

    // ---- texts and the tape

    private static void fourteenTexts() {
        Due.sentence("TEXTS, 14 at most, numbered from 0");
        ShyWell x = new ShyWell();
        for (int i = 0; i < 14; i++) Due.is("TEXT " + i, Due.text(x, i % 2 == 0 ? "leave 0" : "stay 0"), i);
        Due.is("the fifteenth", Due.text(x, "fine 0"), FULL);
        Due.is("fourteen", x.count(8), 14);
        Due.is("no KEY of it", x.why(2), NONE);
        Due.is("the last of leave", x.why(0), 12);
        Due.is("the last of stay", x.why(1), 13);
        Due.is("its fault stands first", Due.text(x, "fine"), -104);
    }

    private static void usedUp() {
        Due.sentence("(96 bytes at most; an act that reads it uses it up, whatever it answers)");
        ShyWell x = new ShyWell();
        String[] texts = {"fine 1", "fine", "", "finer 1", "fine 1 "};
        int[] due = {0, -104, -100, -100, 1};
        for (int i = 0; i < texts.length; i++) {
            Due.is("\"" + texts[i] + "\"", Due.text(x, texts[i]), due[i]);
            Due.is("bytes then", x.count(10), 0);
            Due.is("nothing is left of it", x.trim(1), BAD);
        }
        for (int i = 2; i < 14; i++) Due.text(x, "fine 1");
        Due.is("FULL", Due.text(x, "fine 1"), FULL);
        Due.is("bytes then", x.count(10), 0);
        Due.lay(x, "fine 1");
        x.run(300);
        x.check(1);
        x.keep();
        x.back();
        Due.is("no other act reads it", x.count(10), 6);
    }

    private static void tapeBounds() {
        Due.sentence("how many it has. FULL: it would have more than 96.");
        ShyWell x = new ShyWell();
        for (int i = 1; i <= 8; i++) Due.is("feed " + i, x.feed(0x20202020, 0x20202020, 0x20202020), 12 * i);
        Due.is("97 at least", x.feed(0, 0, 0), FULL);
        Due.is("96 yet", x.count(10), 96);
        for (int n : new int[] {95, 85}) {
            Due.is("trim(" + n + ")", x.trim(n), n);
            Due.is("twelve more than " + n, x.feed(0, 0, 0), FULL);
        }
        x.trim(84);
        Due.is("twelve more than 84", x.feed(0x66696e65, 0x20313233, 0x34202020), 96);
        Due.is("they are the last", x.text(), 0);
    }

    private static void highestFirst() {
        Due.sentence("Twelve bytes come to THE TAPE, the highest of each number first");
        ShyWell x = new ShyWell();
        x.comer(0, 0, 1, 0);
        x.feed(0x66696e65, 0x20313233, 0x342b3536);
        Due.is("text()", x.text(), 0);
        Due.is("1234+56", x.fine(0), 1290);
        for (int place = 0; place < 12; place++) {
            int[] bytes = {0x20202020, 0x20202020, 0x20202020};
            bytes[place / 4] = bytes[place / 4] & ~(255 << 24 - place % 4 * 8) | 0xff << 24 - place % 4 * 8;
            x.feed(bytes[0], bytes[1], bytes[2]);
            Due.is("byte 255 at " + place, x.text(), -100 - place);
        }
        x.feed(-1, 0, 0);
        Due.is("a number below 0", x.text(), -100);
        x.feed(Integer.MIN_VALUE, 0, 0);
        Due.is("the lowest number", x.text(), -100);
    }

    private static void trimBounds() {
        Due.sentence("THE TAPE keeps its first n bytes: n. BAD.");
        ShyWell x = new ShyWell();
        Due.is("none of none", x.trim(0), 0);
        Due.is("one of none", x.trim(1), BAD);
        x.feed(0x66696e65, 0x20313233, 0x34353637);
        Due.is("13 of 12", x.trim(13), BAD);
        Due.is("-1 of 12", x.trim(-1), BAD);
        Due.is("12 of 12", x.trim(12), 12);
        Due.is("9 of 12", x.trim(9), 9);
        Due.is("10 of 9", x.trim(10), BAD);
        Due.is("the first ones", x.text(), 0);
        x.comer(0, 0, 1, 0);
        Due.is("1234", x.fine(0), 1234);
        x.feed(0x66696e65, 0x20313233, 0x34353637);
        Due.is("none of 12", x.trim(0), 0);
        Due.is("none are left", x.count(10), 0);
        Due.is("and nothing is no TEXT", x.text(), -100);
    }

    // ---- what a text is

    private static void keys() {
        Due.sentence("KEY: leave | stay | fine.");
        reads("leave 1", 0);
        reads("stay 1", 0);
        reads("fine 1", 0);
        for (String word : new String[] {"leav", "leaves", "sta", "stays", "fin", "fines", "xine", "finx", "staz", "leavf", "l", "t", "FINE", "Fine", "fINE"}) faultAt(word + " 1", 0);
        faultAt("1 fine", 0);
        faultAt("(fine 1)", 0);
        faultAt("!fine 1", 0);
        faultAt("  fines 1", 2);
        faultAt("fine fine", 5);
        faultAt("fine leave 1", 5);
    }

    private static void looseness() {
        Due.sentence("E, the loosest first: OR: AND { | AND }; AND: TEST { & TEST }; TEST: SUM [ (< | = | >) SUM ]; SUM: TERM { (+ | -) TERM }; TERM: PIECE { (* | /) PIECE }");
        gives("1|0&0", 1);
        gives("(1|0)&0", 0);
        gives("0&0|1", 1);
        gives("2&2=2", 1);
        gives("3=2&1", 0);
        gives("0|2=2", 1);
        gives("1<1+1", 1);
        gives("2+2>3", 1);
        gives("2+3*4", 14);
        gives("2*3+4", 10);
        gives("20-8/4", 18);
        gives("9-3-2", 4);
        gives("9-3+2", 8);
        gives("64/8/2", 4);
        gives("64/8*2", 16);
        gives("2*7/4", 3);
        gives("!0*5+!3", 5);
        gives("!1=0", 1);
        gives("!(1=0)", 1);
        gives("!(1|0)|0", 0);
    }

    private static void oneComparison() {
        Due.sentence("TEST: SUM [ (< | = | >) SUM ]");
        for (String sign : new String[] {"<", "=", ">"}) {
            reads("fine 1" + sign + "2", 0);
            for (String second : new String[] {"<", "=", ">"}) {
                faultAt("fine 1" + sign + "2" + second + "3", 8);
                faultAt("fine 1" + sign + second + "3", 7);
                reads("fine (1" + sign + "2)" + second + "3", 0);
                reads("fine 1" + sign + "2&3" + second + "4|5" + sign + "6", 0);
            }
        }
    }

    private static void numbers() {
        Due.sentence("PIECE: NUMBER (1 to 4 digits) | NAME | ! PIECE | ( E ).");
        gives("0", 0);
        gives("9", 9);
        gives("9999", 9999);
        gives("0000", 0);
        gives("0012", 12);
        faultAt("fine 00000", 5);
        faultAt("fine 10000", 5);
        faultAt("fine 1+12345", 7);
        faultAt("fine 1+12345678901", 7);
        faultAt("fine -1", 5);
        faultAt("fine +1", 5);
        faultAt("fine ()", 6);
        faultAt("fine (1", 7);
        faultAt("fine !", 6);
        faultAt("fine !)", 6);
        faultAt("fine 1)", 6);
        faultAt("fine 1!", 6);
        faultAt("fine 1(2)", 6);
        faultAt("fine (1)2", 8);
    }

    private static void names() {
        Due.sentence("NAMES, each one letter: of leave t the rest of THE MINUTE by 1440, s SINCE, a A; of stay a A, w WATER, n how many STAND; of fine g GOT, e EMPTY");
        String[] keys = {"leave", "stay", "fine"}, known = {"tsa", "awn", "ge"};
        for (int k = 0; k < 3; k++) {
            for (char c = 'a'; c <= 'z'; c++) {
                if (known[k].indexOf(c) >= 0) reads(keys[k] + " " + c, 0);
                else faultAt(keys[k] + " " + c, keys[k].length() + 1);
            }
            faultAt(keys[k] + " " + known[k].charAt(0) + known[k].charAt(1), keys[k].length() + 1);
            faultAt(keys[k] + " " + known[k], keys[k].length() + 1);
            faultAt(keys[k] + " " + Character.toUpperCase(known[k].charAt(0)), keys[k].length() + 1);
        }
    }

    // ---- words and signs

    private static void everyByteBehindAPiece() {
        Due.sentence("A word is a row of letters a .. z, or of digits, as long as it goes; any other byte is a sign by itself.");
        for (int b = 0; b < 256; b++) {
            char c = (char) b;
            int due = -106;
            if ("+-*/<=>&|".indexOf(c) >= 0) due = 0;
            if (c >= 'a' && c <= 'z') due = -105;
            if (c == ' ') due = -107;
            reads("fine g" + c + "1", due);
        }
    }

    private static void everyByteAheadOfAPiece() {
        Due.sentence("FAULT: the first byte of the first word or sign with which no TEXT goes on");
        for (int b = 0; b < 256; b++) {
            char c = (char) b;
            int due = -105;
            if (c == ' ' || c == '!') due = 0;
            if (c == '(') due = -107;
            if (c >= '0' && c <= '9') due = -106;
            reads("fine " + c + "g", due);
        }
    }

    private static void everyByteAtTheEnds() {
        Due.sentence("FAULT: the first byte of the first word or sign with which no TEXT goes on");
        for (int b = 0; b < 256; b++) {
            char c = (char) b;
            int due = -106;
            if (c == ' ') due = 0;
            if ("+-*/<=>&|".indexOf(c) >= 0) due = -107;
            if (c >= 'a' && c <= 'z') due = -105;
            reads("fine g" + c, due);
            reads(c + "fine g", c == ' ' ? 0 : -100);
        }
    }

    private static void blanks() {
        Due.sentence("Between words and signs, and at the ends, there may be blanks (byte 32)");
        reads("fine 1+1", 0);
        reads("   fine   1   +   1   ", 0);
        reads("fine   !   (   g   )   ", 0);
        reads(" ".repeat(90) + "fine 1", 0);
        reads("fine" + " ".repeat(91) + "1", 0);
        reads("fine 1" + " ".repeat(90), 0);
        faultAt(" ".repeat(90) + "fine z", 95);
        reads("fine!(g)", 0);
        reads("fine(g)", 0);
        for (char other : new char[] {9, 10, 13, 0, 160}) faultAt("fine" + other + "1", 4);
        faultAt("fi ne 1", 0);
        faultAt("fine 1 2", 7);
        faultAt("fine g e", 7);
    }

    private static void blankNeeded() {
        Due.sentence("a word right behind another one needs one.");
        faultAt("fine1", 4);
        faultAt("leave1", 5);
        faultAt("stay1", 4);
        faultAt("fine 1g", 6);
        faultAt("fine g1", 6);
        faultAt("fine g+1e", 8);
        faultAt("fine1+", 4);
        faultAt("1fine 1", 0);
        reads("fine 1", 0);
    }

    // ---- nesting

    private static String times(String sign, int n) {
        return sign.repeat(n);
    }

    private static void ninthBracket() {
        Due.sentence("the ninth ( that would be open within others");
        reads("fine " + times("(", 8) + "1" + times(")", 8), 0);
        faultAt("fine " + times("(", 9) + "1" + times(")", 9), 13);
        faultAt("fine " + times("( ", 9) + "1" + times(")", 9), 21);
        reads("fine " + times("(", 8) + "1" + times(")", 8) + "+" + times("(", 8) + "1" + times(")", 8), 0);
        reads("fine " + times("(", 8) + "1" + ")+(1)" + times(")", 7), 0);
        faultAt("fine " + times("(", 8) + "1+(1)" + times(")", 8), 15);
        faultAt("fine 1+" + times("(", 9), 15);
        reads("fine " + times("(1)+", 20) + "(1)", 0);
    }

    private static void ninthNot() {
        Due.sentence("the ninth ! likewise");
        reads("fine " + times("!", 8) + "1", 0);
        faultAt("fine " + times("!", 9) + "1", 13);
        faultAt("fine " + times("! ", 9) + "1", 21);
        reads("fine " + times("!", 8) + "1+" + times("!", 8) + "1", 0);
        reads("fine " + times("!1+", 20) + "!1", 0);
        reads("fine !!!!(!!!!1)", 0);
        faultAt("fine !!!!(!!!!!1)", 14);
        faultAt("fine !!!!(1+!!!!!1)", 16);
        reads("fine !!!!(1)+!!!!!1", 0);
    }

    private static void eachByItself() {
        Due.sentence("the ninth ! likewise, each by itself)");
        reads("fine " + times("!(", 8) + "1" + times(")", 8), 0);
        reads("fine " + times("!", 8) + times("(", 8) + "1" + times(")", 8), 0);
        reads("fine " + times("(", 8) + times("!", 8) + "1" + times(")", 8), 0);
        faultAt("fine " + times("!(", 8) + "!1" + times(")", 8), 21);
        faultAt("fine " + times("!(", 8) + "(1" + times(")", 9), 21);
        faultAt("fine " + times("!", 8) + times("(", 9), 21);
        faultAt("fine " + times("(", 8) + times("!", 9), 21);
    }

    private static void endTooSoon() {
        Due.sentence("the end (the place behind the last byte), if it comes too soon.");
        String[] texts = {"", " ", "   ", "fine", "fine ", "leave", "stay   ", "fine 1+", "fine 1+  ", "fine (", "fine (1", "fine (1 ", "fine !", "fine !!", "fine 1<", "fine 1&", "fine 1|", "fine 1*",
            "fine (1+2", "fine ((1)", "fine " + times("(", 8), "fine " + times("!", 8), times(" ", 96), "fine " + times("1+", 45) + "("};
        for (String text : texts) faultAt(text, text.length());
        Due.is("the last one has 96 bytes", texts[texts.length - 1].length(), 96);
    }

    private static void firstFaultOnly() {
        Due.sentence("the first word or sign with which no TEXT goes on");
        faultAt("fine z + y", 5);
        faultAt("fine 1 + y + z", 9);
        faultAt("fine 1 ) (", 7);
        faultAt("fine 1 + 12345 z", 9);
        faultAt("fine 1 + + 1", 9);
        faultAt("x y z", 0);
        faultAt("fine " + times("(", 9) + "z", 13);
    }

    // ---- what a text gives

    private static void wrap() {
        Due.sentence("Ints wrap; / is 0 by 0");
        gives("8192*8192*32", Integer.MIN_VALUE);
        gives("8192*8192*32-1", Integer.MAX_VALUE);
        gives("8192*8192*32-1+1", Integer.MIN_VALUE);
        gives("8192*8192*64", 0);
        gives("8192*8192*32*(0-1)", Integer.MIN_VALUE);
        gives("8192*8192*32/(0-1)", Integer.MIN_VALUE);
        gives("0-8192*8192*32", Integer.MIN_VALUE);
        gives("9999*9999*9999", -1027349969);
        gives("8192*8192*32<0", 1);
        gives("8192*8192*32-1>0", 1);
    }

    private static void byNothing() {
        Due.sentence("/ is 0 by 0");
        gives("1/0", 0);
        gives("0/0", 0);
        gives("9999/0", 0);
        gives("(0-1)/0", 0);
        gives("7+1/0", 7);
        gives("5/(3-3)*2", 0);
        gives("5/(1/2)", 0);
        Due.sentence("All numbers are whole; / cuts towards 0.");
        gives("7/2", 3);
        gives("(0-7)/2", -3);
        gives("7/(0-2)", -3);
        gives("(0-7)/(0-2)", 3);
        gives("(0-1)/2", 0);
        gives("1/9999", 0);
    }

    private static void truth() {
        Due.sentence("tests, & | ! give 1 or 0 (what is not 0 is true; both sides are worked out).");
        int[] sides = {-2, -1, 0, 1, 2};
        for (int l : sides) {
            String left = l < 0 ? "(0-" + -l + ")" : "" + l;
            gives("!" + left, l == 0 ? 1 : 0);
            gives("!!" + left, l == 0 ? 0 : 1);
            for (int r : sides) {
                String right = r < 0 ? "(0-" + -r + ")" : "" + r;
                gives(left + "&" + right, l != 0 && r != 0 ? 1 : 0);
                gives(left + "|" + right, l != 0 || r != 0 ? 1 : 0);
                gives(left + "<" + right, l < r ? 1 : 0);
                gives(left + "=" + right, l == r ? 1 : 0);
                gives(left + ">" + right, l > r ? 1 : 0);
            }
        }
        gives("0&1/0", 0);
        gives("1|1/0", 1);
    }

    private static void lastToldCounts() {
        Due.sentence("Of a KEY that TEXT counts that was told last.");
        ShyWell x = new ShyWell();
        x.comer(0, 0, 1, 0);
        Due.is("none", x.why(2), NONE);
        Due.text(x, "fine 11");
        Due.is("TEXT 0", x.why(2), 0);
        Due.text(x, "leave 5");
        Due.is("the first", x.fine(0), 11);
        Due.text(x, "fine 22");
        Due.is("the second", x.fine(0), 22);
        Due.text(x, "fine 33 3");
        Due.is("a fault is none", x.fine(0), 22);
        Due.text(x, "stay 44");
        Due.is("another KEY's is none", x.fine(0), 22);
        Due.is("why(2)", x.why(2), 2);
        Due.is("why(0)", x.why(0), 1);
        Due.is("why(1)", x.why(1), 3);
    }

    private static void namedValues() {
        Due.sentence("of leave t the rest of THE MINUTE by 1440, s SINCE, a A");
        ShyWell x = new ShyWell();
        x.comer(0, 59, 1, 0);
        for (int i = 0; i < 5; i++) x.run(287);
        x.run(3);
        for (int minute = 1438; minute < 1443; minute++) {
            Due.text(x, "leave t=" + minute % 1440 + "&s=" + minute + "&a=59");
            Due.is("minute " + minute, x.told(0, 13), 1);
            x.run(1);
        }
        Due.sentence("of stay a A, w WATER, n how many STAND");
        ShyWell y = new ShyWell();
        y.well(2, 99);
        y.comer(0, 59, 1, 0);
        Due.text(y, "stay (w=99)+2*(a=59)+4*(n=0)");
        Due.is("none stand", y.told(0, 14), 7);
        for (int i = 1; i < 8; i++) y.comer(0, 0, 1, 1);
        y.well(2, 0);
        Due.text(y, "stay 9");
        y.run(1);
        Due.is("seven stand", y.count(1), 7);
        Due.text(y, "stay (w=0)+2*(a=59)+4*(n=7)");
        Due.is("seven stand", y.told(0, 14), 7);
    }

    private static void keysTold() {
        Due.sentence("what 0 KEY (0 leave, 1 stay, 2 fine)");
        ShyWell x = new ShyWell();
        String[] texts = {"fine 5", "leave 5", "stay 5", "fine 5"};
        int[] due = {2, 0, 1, 2};
        for (String text : texts) Due.text(x, text);
        for (int i = 0; i < 4; i++) Due.is("textTold(" + i + ", 0)", x.textTold(i, 0), due[i]);
        for (int t : new int[] {-1, 4, 14}) Due.is("textTold(" + t + ", 0)", x.textTold(t, 0), BAD);
        for (int w : new int[] {-1, 2}) Due.is("textTold(0, " + w + ")", x.textTold(0, w), BAD);
    }

    private static void pieces() {
        Due.sentence("1 how many NUMBERS and NAMES it has.");
        String[] texts = {"fine 1", "fine g", "fine !(g)", "fine g+1", "fine (g*e)-(1|!g)/0004", "fine " + times("1+", 45) + "g"};
        int[] due = {1, 1, 1, 2, 5, 46};
        for (int i = 0; i < texts.length; i++) {
            ShyWell x = new ShyWell();
            Due.text(x, texts[i]);
            Due.is(texts[i], x.textTold(0, 1), due[i]);
            Due.is("TEXT 1", x.textTold(1, 1), BAD);
            Due.is("TEXT -1", x.textTold(-1, 1), BAD);
        }
        ShyWell x = new ShyWell();
        Due.text(x, "fine 1+2+3+");
        Due.text(x, "fine 1+2");
        Due.is("those of a fault do not count", x.textTold(0, 1), 2);
    }
}
