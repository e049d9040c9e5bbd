/** Promises 32 to 36: numbers that wait, images, counts. */
public final class RowsTest {
    private static final int BAD = ShyWell.BAD, NO = ShyWell.NO;

    public static void main(String[] args) {
        tell();
        check();
        checkByTheImage();
        keepAndBack();
        begunAnew();
        textsOfTheImage();
        outsideTheImage();
        count();
        Due.end();
    }

    private static int checked(ShyWell x, int n, int... numbers) {
        for (int v : numbers) x.tell(v);
        int answer = x.check(n);
        Due.is("none wait then", x.count(9), 0);
        return answer;
    }

    private static void tell() {
        ShyWell x = new ShyWell();
        for (int i = 1; i <= 60; i++) Due.is("tell " + i, x.tell(i % 2 == 0 ? Integer.MIN_VALUE : i), i);
        Due.is("60 wait", x.tell(0), ShyWell.FULL);
        Due.is("refused: 60", x.count(9), 60);
    }

    private static ShyWell stoodBy() {
        ShyWell x = new ShyWell();
        x.well(0, 2);
        x.well(1, 2);
        x.well(2, 0);
        x.comer(2, 1, 1, 9);
        x.keep();
        return x;
    }

    private static void check() {
        ShyWell x = new ShyWell();
        Due.is("BAD ahead of NO", checked(x, 0, 1), BAD);
        Due.is("no image", checked(x, 1, 1), NO);
        x = stoodBy();
        for (int n : new int[] {0, -1, 31, Integer.MAX_VALUE}) Due.is("check(" + n + ")", checked(x, n, 0, 0), BAD);
        // It leaves and stands in minute 1, goes in minute 2; quiet in 0 and 2 to 59.
        Due.is("true", checked(x, 6, 0, 0, 0, 1, 0, 0, 1, 0, 1, 0, 2, 0), 0);
        Due.is("the first is not", checked(x, 6, 1, 0, 0, 1, 0, 0, 1, 0, 1, 0, 2, 0), 1);
        Due.is("the fourth is not", checked(x, 6, 0, 0, 0, 0, 0, 0, 1, 0, 1, 0, 2, 0), 4);
        Due.is("the fifth is not", checked(x, 6, 0, 0, 0, 1, 9, 0, 1, 0, 1, 0, 2, 0), 5);
        Due.is("the first of two", checked(x, 6, 0, 0, 0, 1, 0, 7, 1, 7, 1, 0, 2, 0), 6);
        Due.is("one is missing", checked(x, 2, 0, 0, 0), 4);
        Due.is("all are missing", checked(x, 2), 1);
        Due.is("one too many", checked(x, 2, 0, 0, 0, 1, 0), 5);
        Due.is("two too many", checked(x, 2, 0, 0, 0, 1, 0, 0), 5);
        int[] rows = new int[60];
        rows[3] = 1;
        for (int i = 3; i < 30; i++) rows[2 * i] = i < 5 ? 1 : 2;
        Due.is("thirty minutes", checked(x, 30, rows), 0);
        rows[59] = 1;
        Due.is("the last is not", checked(x, 30, rows), 60);
    }

    private static void checkByTheImage() {
        ShyWell x = stoodBy();
        x.run(7);
        x.well(0, 60);
        Due.text(x, "leave 1");
        int z = x.count(11);
        Due.is("as the image is", checked(x, 2, 0, 0, 0, 1), 0);
        Due.is("nothing changes: minute", x.count(2), 7);
        Due.is("nothing changes: z", x.count(11), z);
        Due.is("nothing changes: texts", x.why(0), 0);
        Due.is("the image is as it was", checked(x, 2, 0, 0, 0, 1), 0);
        x.keep();
        Due.is("the new image", checked(x, 1, 1, 0), 0);
        ShyWell y = new ShyWell();
        y.comer(1, 0, 1, 9);
        y.well(4, 54);
        y.keep();
        y.seed(0);
        Due.is("by z as it is now it forgets", y.behind(1, 0), 3);
        Due.is("by the image's z it goes", checked(y, 1, 2, 0), 0);
    }

    private static void keepAndBack() {
        ShyWell x = new ShyWell();
        Due.is("no image", x.back(), NO);
        Due.is("keep() of none", x.keep(), 0);
        x.seed(5);
        x.deal(4);
        for (int i = 0; i < 5; i++) x.well(i, 7);
        x.comer(2, 30, 1, 9);
        Due.text(x, "leave 1");
        x.run(21);
        int[] counts = counts(x);
        int[][] told = told(x);
        Due.is("keep()", x.keep(), 5);
        for (int again = 0; again < 2; again++) {
            x.seed(again);
            x.comer(0, 0, 1, 9);
            x.comer(4, 50, 1, 9);
            for (int i = 0; i < 5; i++) x.well(i, 9);
            x.well(4, 0);
            x.turns(0, 5);
            x.set(1, 1, 1);
            x.set(1, 2, 1);
            x.set(1, 3, 1);
            x.set(1, 4, 1);
            Due.text(x, "stay 9");
            x.run(300);
            Due.is("back()", x.back(), 5);
            same("counts", counts(x), counts);
            int[][] toldThen = told(x);
            for (int c = 0; c < told.length; c++) same("comer " + c, toldThen[c], told[c]);
            for (int i : new int[] {0, 1, 3, 4}) Due.is("well(" + i + ")", x.well(i, 7), 7);
        }
        Due.is("comers of later are gone", x.told(5, 0), BAD);
        x.comer(3, 2, 1, 1);
        Due.is("there is room for new ones", x.told(5, 0), 3);
        Due.is("keep() again", x.keep(), 6);
        Due.is("the last image counts", x.back(), 6);
    }

    /** Whatever became of the one that went with the image, the next one of its number has nothing of it. */
    private static void begunAnew() {
        int[] fresh = {3, 2, 7, 4, 4, 0, 0, 0, 0, 0, 0, 0};
        for (int minutes = 1; minutes < 24; minutes++) {
            ShyWell x = new ShyWell();
            x.well(2, 1);
            x.well(0, 60);
            Due.text(x, "leave s>1");
            x.keep();
            x.comer(2, 4, 2, 9);
            x.run(minutes);
            x.back();
            x.comer(3, 2, 7, 4);
            for (int i = 0; i < fresh.length; i++) Due.is("behind " + minutes + ": told(0, " + i + ")", x.told(0, i), fresh[i]);
        }
    }

    private static int[] counts(ShyWell x) {
        int[] row = new int[12];
        for (int i = 0; i < 12; i++) row[i] = x.count(i);
        return row;
    }

    private static int[][] told(ShyWell x) {
        int[][] rows = new int[x.count(0)][15];
        for (int c = 0; c < rows.length; c++) for (int i = 0; i < 15; i++) rows[c][i] = x.told(c, i);
        return rows;
    }

    private static void same(String what, int[] got, int[] due) {
        for (int i = 0; i < due.length; i++) Due.is(what + " at " + i, got[i], due[i]);
    }

    private static void textsOfTheImage() {
        ShyWell x = new ShyWell();
        x.comer(0, 0, 1, 0);
        Due.text(x, "fine 11");
        x.keep();
        Due.text(x, "fine 22");
        Due.text(x, "stay 3");
        Due.is("the last fine", x.fine(0), 22);
        x.back();
        Due.is("one text", x.count(8), 1);
        Due.is("it counts again", x.why(2), 0);
        Due.is("and gives", x.fine(0), 11);
        Due.is("no stay", x.why(1), ShyWell.NONE);
        Due.is("no text 1", x.textTold(1, 0), BAD);
        Due.is("its number is free", Due.text(x, "leave t+1"), 1);
        Due.is("for another", x.textTold(1, 1), 2);
        for (int i = 2; i < 14; i++) Due.text(x, "fine 5");
        x.back();
        Due.is("room again", Due.text(x, "fine 6"), 1);
    }

    private static void outsideTheImage() {
        ShyWell x = new ShyWell();
        x.keep();
        x.comer(1, 8, 1, 1);
        x.sheet(0, 0, 2);
        x.mark(0, 1, 4);
        x.lay(0, 1, 0);
        x.tell(5);
        x.feed(0, 0, 0);
        Due.is("no comers", x.back(), 0);
        Due.is("a sheet stays", x.mark(0, 1, 4), 1);
        Due.is("a slot stays", x.ask(0, 1), 11);
        Due.is("numbers wait on", x.count(9), 1);
        Due.is("the tape stays", x.count(10), 12);
    }

    private static void count() {
        ShyWell x = new ShyWell();
        x.well(0, 60);
        x.well(2, 1);
        x.comer(0, 0, 1, 1);
        x.comer(0, 1, 1, 1);
        x.comer(2, 5, 1, 1);
        Due.text(x, "leave t=a");
        x.tell(1);
        x.tell(2);
        x.feed(0, 0, 0);
        x.run(8);
        int z = 1;
        for (int i = 0; i < 3; i++) z = z * 1103515245 + 12345;
        int[] due = {3, 1, 8, 0, 0, 2, 1, 1, 1, 2, 12, z};
        same("count", counts(x), due);
        for (int w : new int[] {-1, 12, Integer.MIN_VALUE, Integer.MAX_VALUE}) Due.is("count(" + w + ")", x.count(w), BAD);
    }
}
