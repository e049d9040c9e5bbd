import java.lang.reflect.InvocationTargetException;
import java.lang.reflect.Method;
import java.util.ArrayList;
import java.util.HashMap;
import java.util.List;
import java.util.Map;
import java.util.Random;

/** Long runs of drawn calls, each answered by ShyWell and by Model; a seed for each run, so that all runs come again. */
public final class ModelTest {
    private static final Map<String, Method> WELL = new HashMap<>(), MODEL = new HashMap<>();
    private static final String[] STATE = {"told", "count", "why", "textTold", "mean", "least", "fine", "fullIn", "as", "ask", "item", "rest", "explained"};

    private final Random random;
    private final ShyWell well = new ShyWell();
    private final Model model = new Model();
    private final int run;
    private final List<String> calls = new ArrayList<>();
    private boolean parted = false;

    private ModelTest(int run) {
        this.run = run;
        random = new Random(run);
    }

    public static void main(String[] args) throws Exception {
        for (Method m : ShyWell.class.getDeclaredMethods()) if (java.lang.reflect.Modifier.isPublic(m.getModifiers())) WELL.put(m.getName(), m);
        for (Method m : Model.class.getDeclaredMethods()) MODEL.put(m.getName(), m);
        Due.is("how many methods the face has", WELL.size(), 35);
        int runs = args.length > 0 ? Integer.parseInt(args[0]) : 600;
        for (int run = 0; run < runs; run++) new ModelTest(run).go();
        for (int run = 0; run < 6; run++) new ModelTest(100000 + run).goToTheEnd();
        Due.end();
    }

    private void go() throws Exception {
        int early = random.nextInt(4);
        if (early > 0) call("seed", random.nextInt());
        if (early > 1) call("deal", 1 + random.nextInt(8));
        while (calls.size() < 480 && !parted) act();
    }

    /** Near the last minute, where fewer minutes go by than are asked for. */
    private void goToTheEnd() throws Exception {
        call("seed", random.nextInt());
        call("deal", 5);
        for (int i = 0; i < 333; i++) call("run", 300);
        call("run", 40 + random.nextInt(60));
        while (calls.size() < 500 && !parted) act();
    }

    private int upTo(int n) {
        return random.nextInt(n);
    }

    private int odd(int usual) {
        return upTo(25) > 0 ? usual : List.of(-1, Integer.MIN_VALUE, Integer.MAX_VALUE, Model.NONE, 5, 8, 24, 25, 99, 100, 301).get(upTo(11));
    }

    private void act() throws Exception {
        int turn = upTo(100);
        if (turn < 5) call("comer", odd(upTo(6)), odd(upTo(60)), odd(1 + upTo(upTo(2) == 0 ? 3 : 30)), odd(upTo(10)));
        else if (turn < 8) call("set", odd(upTo(8)), odd(1 + upTo(4)), odd(upTo(upTo(2) == 0 ? 10 : 60)));
        else if (turn < 11) call("well", odd(upTo(5)), odd(upTo(upTo(2) == 0 ? 10 : 100)));
        else if (turn < 13) call("turns", odd(upTo(8)), odd(upTo(6)));
        else if (turn < 14) call("deal", odd(1 + upTo(3)));
        else if (turn < 15) call("seed", random.nextInt());
        else if (turn < 25) call("run", odd(1 + upTo(upTo(2) == 0 ? 5 : 300)));
        else if (turn < 30) call("behind", odd(upTo(301)), odd(upTo(4)));
        else if (turn < 31) call("best", odd(upTo(8)), odd(1 + upTo(120)), odd(upTo(2)));
        else if (turn < 33) call("alone", odd(upTo(8)), odd(1 + upTo(300)));
        else if (turn < 38) tellText();
        else if (turn < 39) call("feed", random.nextInt(), random.nextInt(), random.nextInt());
        else if (turn < 40) call("trim", odd(upTo(30)));
        else if (turn < 41) call("text");
        else if (turn < 44) call("sheet", odd(upTo(4)), odd(upTo(5) - 1 > 1 ? upTo(2) : upTo(3) - 1), odd(upTo(25)));
        else if (turn < 51) call("mark", odd(upTo(4)), odd(upTo(upTo(2) == 0 ? 5 : 24)), markable());
        else if (turn < 52) call("pour", odd(upTo(4)));
        else if (turn < 54) call("copy", odd(upTo(4)), odd(upTo(12)), odd(upTo(4)), odd(upTo(12)), odd(upTo(12)));
        else if (turn < 59) call("lay", odd(upTo(5)), odd(upTo(4)), odd(upTo(2) == 0 ? upTo(4) : upTo(9) - 4));
        else if (turn < 61) tellMinutes();
        else if (turn < 62) call("tell", upTo(10));
        else if (turn < 63) call("check", odd(1 + upTo(30)));
        else if (turn < 65) call("keep");
        else if (turn < 67) call("back");
        else askState();
    }

    private int markable() {
        int sort = upTo(6);
        if (sort == 0) return Model.NONE;
        if (sort == 1) return random.nextInt();
        return sort == 2 ? upTo(240000) - 120000 : upTo(14) - 2;
    }

    private void askState() throws Exception {
        String name = STATE[upTo(2) == 0 ? 0 : upTo(STATE.length)];
        switch (name) {
            case "told": call(name, odd(upTo(8)), odd(upTo(15))); break;
            case "count": call(name, odd(upTo(12))); break;
            case "why": call(name, odd(upTo(3))); break;
            case "textTold": call(name, odd(upTo(14)), odd(upTo(2))); break;
            case "mean": call(name, odd(upTo(2))); break;
            case "least": call(name); break;
            case "fine": call(name, odd(upTo(8))); break;
            case "fullIn": call(name, odd(upTo(upTo(2) == 0 ? 12 : 100))); break;
            case "as": call(name, odd(upTo(8)), odd(upTo(6))); break;
            case "ask": call(name, odd(upTo(5)), odd(upTo(6))); break;
            case "item": call(name, odd(upTo(5)), odd(upTo(upTo(2) == 0 ? 4 : 24))); break;
            case "rest": call(name, odd(upTo(5)), upTo(4) == 0 ? random.nextInt() : upTo(9) - 4); break;
            default: call(name, odd(upTo(4)), odd(upTo(2)));
        }
    }

    private void tellText() throws Exception {
        String key = List.of("leave", "stay", "fine").get(upTo(3));
        StringBuilder text = new StringBuilder(blanks()).append(key).append(upTo(30) == 0 ? "" : " ");
        int style = upTo(12);
        if (style == 0) for (int i = upTo(11); i >= 0; i--) text.append(List.of("!", "(", "!(", "(!").get(upTo(4)));
        if (style == 1) for (int i = upTo(11); i >= 0; i--) text.append("!").append(upTo(30) == 0 ? "(" : "");
        if (style == 2) for (int i = upTo(11); i >= 0; i--) text.append("(");
        expression(text, key, 1 + upTo(4));
        while (upTo(4) > 0 && text.indexOf("(") >= 0 && closed(text) > 0) text.append(")");
        text.append(blanks());
        if (upTo(4) == 0 && text.length() > 0) text.setCharAt(upTo(text.length()), (char) List.of(32, 40, 41, 33, 38, 60, 97, 48, 0, 255, 65, 46).get(upTo(12)).intValue());
        if (upTo(12) == 0) text.setLength(upTo(text.length() + 1));
        if (text.length() > 96) text.setLength(96);
        if (model.tape.length() > 0) call("trim", 0);
        feedAll(text.toString());
        call("text");
        call("count", 8);
    }

    private static int closed(CharSequence text) {
        int open = 0;
        for (int i = 0; i < text.length(); i++) open += text.charAt(i) == '(' ? 1 : text.charAt(i) == ')' ? -1 : 0;
        return open;
    }

    private String blanks() {
        return upTo(4) == 0 ? " ".repeat(1 + upTo(3)) : "";
    }

    private void expression(StringBuilder text, String key, int size) {
        for (int i = 0; i < size; i++) {
            if (i > 0) text.append(blanks()).append("|&<=>+-*/".charAt(upTo(9))).append(blanks());
            int piece = upTo(10);
            if (piece == 0 && text.length() < 50) {
                text.append("(");
                expression(text, key, 1 + upTo(3));
                text.append(")");
            } else if (piece == 1) {
                text.append("!").append(blanks()).append(Model.names(key).charAt(0));
            } else if (piece < 5) {
                text.append(upTo(3) == 0 ? upTo(12000) : upTo(70));
            } else {
                String names = upTo(30) == 0 ? "tsawnge" : Model.names(key);
                text.append(names.charAt(upTo(names.length())));
            }
        }
    }

    private void feedAll(String text) throws Exception {
        for (int i = 0; i < text.length(); i += 12) call("feed", four(text, i), four(text, i + 4), four(text, i + 8));
        call("trim", text.length());
    }

    private static int four(String text, int from) {
        int v = 0;
        for (int i = from; i < from + 4; i++) v = v << 8 | (i < text.length() ? text.charAt(i) & 255 : 35);
        return v;
    }

    /** Tells the minutes as they will be, at times one wrong, one short or one too many. */
    private void tellMinutes() throws Exception {
        if (model.image == null) return;
        int n = 1 + upTo(upTo(3) == 0 ? 30 : 6);
        List<Integer> rows = model.minutesTold(n);
        int slip = upTo(5);
        if (slip == 0 && !rows.isEmpty()) rows.set(upTo(rows.size()), 7);
        if (slip == 1 && !rows.isEmpty()) rows.remove(rows.size() - 1);
        if (slip == 2) rows.add(upTo(4));
        if (!model.waiting.isEmpty()) call("check", 0);
        for (int v : rows) call("tell", v);
        call("check", n);
    }

    private void call(String name, Object... with) throws Exception {
        // What an object answers behind its 512th call is free.
        if (parted || calls.size() >= 512) return;
        calls.add(name + List.of(with));
        long got = answer(WELL.get(name), well, with);
        long due = answer(MODEL.get(name), model, with);
        parted = got != due;
        Due.is("run " + run + ", call " + calls.size() + ": " + name + List.of(with), got, due);
    }

    private static long answer(Method m, Object on, Object[] with) throws Exception {
        m.setAccessible(true);
        try {
            return ((Number) m.invoke(on, with)).longValue();
        } catch (InvocationTargetException e) {
            System.out.println(m.getName() + " threw " + e.getCause());
            return Long.MIN_VALUE + on.getClass().getName().length();
        }
    }
}
