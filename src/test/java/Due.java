import java.io.IOException;
import java.nio.file.Files;
import java.nio.file.Path;

/** Counts and prints the answers that are not as due; each test ends with end(). */
final class Due {
    private static int asked = 0, wrong = 0;
    private static String document = null, sentence = "";

    private Due() { }

    /** What is asked from now on stands for these words of the document, which it must have just so. */
    static void sentence(String words) {
        sentence = "";
        if (document == null) document = document();
        // Where only the tests were brought along, the words can't be looked up, but what they ask can.
        if (!document.isEmpty()) holds("the document says '" + words + "'", document.contains(words));
        sentence = "'" + words + "': ";
    }

    private static String document() {
        try {
            return Files.readString(Path.of("../shared/DOC.md")).replaceAll("\\s+", " ");
        } catch (IOException e) {
            System.out.println("../shared/DOC.md can't be read");
            return "";
        }
    }

    static void is(String call, long got, long want) {
        asked++;
        if (got == want) return;
        wrong++;
        if (wrong <= 40) System.out.println(sentence + call + " answered " + got + ", due is " + want);
    }

    static void holds(String what, boolean so) {
        is(what, so ? 1 : 0, 1);
    }

    /** Feeds a text to the tape, blanks behind it cut off again, without reading it. */
    static void lay(ShyWell x, String text) {
        int from = x.count(10);
        for (int i = 0; i < text.length(); i += 12) x.feed(four(text, i), four(text, i + 4), four(text, i + 8));
        x.trim(from + text.length());
    }

    static int text(ShyWell x, String text) {
        lay(x, text);
        return x.text();
    }

    private static int four(String text, int from) {
        int v = 0;
        for (int i = from; i < from + 4; i++) v = v << 8 | (i < text.length() ? text.charAt(i) & 255 : 32);
        return v;
    }

    static void end() {
        System.out.println(asked + " answers, " + wrong + " not as due");
        if (wrong != 0) System.exit(1);
    }
}
