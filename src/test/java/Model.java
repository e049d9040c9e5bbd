import java.util.ArrayList;
import java.util.List;

/** The document once more, written another way: kinds as classes, texts split at their loosest sign, thoughts as clones. */
final class Model {
    static final int BAD = -1000000001, NO = -1000000002, FULL = -1000000003, NONE = -1000000005;
    static final int NOTHING = -1000000011, KIND = -1000000012, INDEX = -1000000013, SIZE = -1000000014;

    // ---- kinds

    static class Ways {
        boolean leaves(World w, Man m) {
            Law law = w.law("leave");
            return law == null ? w.minute % 60 == m.a : law.gives(w.minute % 1440, m.since, m.a) != 0;
        }
        int stays(World w, Man m) {
            Law law = w.law("stay");
            return law == null ? 0 : Math.min(99, Math.max(0, law.gives(m.a, w.water, w.standing())));
        }
        int worth(Man m) { return m.a; }
    }
    static class GuessWays extends Ways {
        @Override boolean leaves(World w, Man m) { return m.since >= m.a; }
        @Override int worth(Man m) { return super.worth(m) + 3; }
    }
    static class WaitingWays extends Ways {
        @Override int stays(World w, Man m) { return super.stays(w, m) + m.a; }
        @Override int worth(Man m) { return 60 - m.a; }
    }
    static final class KnowingWays extends GuessWays {
        @Override boolean leaves(World w, Man m) { return super.leaves(w, m) && w.water > 0; }
        @Override int worth(Man m) { return 2 * super.worth(m); }
    }
    static final class StubbornWays extends WaitingWays {
        @Override int stays(World w, Man m) { return 2 * super.stays(w, m); }
        @Override int worth(Man m) { return super.worth(m) - 5; }
    }
    static final class ShyWays extends Ways {
        @Override boolean leaves(World w, Man m) { return super.leaves(w, m) && w.standing() == 0; }
        @Override int worth(Man m) { return 30; }
    }
    static final List<Ways> KINDS = List.of(new Ways(), new GuessWays(), new WaitingWays(), new KnowingWays(), new StubbornWays(), new ShyWays());

    static boolean isOne(int kind, int of) {
        return KINDS.get(of).getClass().isInstance(KINDS.get(kind));
    }

    // ---- the world

    static final class Man implements Cloneable {
        int kind, a, away, need, want, left, waited, since, got, empty, visits;
        String where = "home";
        Ways ways() { return KINDS.get(kind); }
        Man twin() {
            try { return (Man) clone(); } catch (CloneNotSupportedException e) { throw new IllegalStateException(e); }
        }
        void goBack() { where = "back"; left = away; }
    }

    static final class World {
        int quarter = 15, most = 9, water = 3, bucket = 1, forgets = 0, quiet = 0, minute = 0, waits = 0, z = 1;
        List<Man> men = new ArrayList<>();
        List<Law> laws = new ArrayList<>();

        World twin() {
            World w = new World();
            w.quarter = quarter; w.most = most; w.water = water; w.bucket = bucket; w.forgets = forgets;
            w.quiet = quiet; w.minute = minute; w.waits = waits; w.z = z;
            for (Man m : men) w.men.add(m.twin());
            w.laws.addAll(laws);
            return w;
        }
        Law law(String key) {
            Law last = null;
            for (Law law : laws) if (law.words.get(0).text.equals(key)) last = law;
            return last;
        }
        List<Man> at(String where) {
            List<Man> there = new ArrayList<>();
            for (Man m : men) if (m.where.equals(where)) there.add(m);
            return there;
        }
        int standing() { return at("stands").size(); }
        int got() { return men.stream().mapToInt(m -> m.got).sum(); }
        int empty() { return men.stream().mapToInt(m -> m.empty).sum(); }
        int visits() { return men.stream().mapToInt(m -> m.visits).sum(); }
        int draw() { z = z * 1103515245 + 12345; return z >>> 8; }

        boolean minute() {
            if (minute >= 99999) return false;
            List<Man> stood = at("stands"), back = at("back");
            for (Man m : at("home")) {
                boolean goes = false;
                if (m.want > 0 && m.ways().leaves(this, m)) goes = draw() % 100 >= forgets;
                if (goes) { m.where = "out"; m.left = m.away; } else m.since += 1;
            }
            boolean someone = false;
            for (Man m : at("out")) {
                m.left -= 1;
                if (m.left != 0) continue;
                someone = true;
                m.visits += 1;
                if (standing() == 0 && water > 0) {
                    for (int i = 0; i < bucket && m.want > 0 && water > 0; i++) { water--; m.want--; m.got++; }
                    m.goBack();
                } else if (m.ways().stays(this, m) > 0) { m.where = "stands"; m.waited = 0; }
                else { m.goBack(); m.empty += 1; }
            }
            for (Man m : stood) {
                waits += 1;
                m.waited += 1;
                if (m.waited >= m.ways().stays(this, m)) { m.goBack(); m.empty += 1; }
            }
            for (Man m : back) {
                m.left -= 1;
                if (m.left == 0) { m.where = "home"; m.since = 0; }
            }
            if (someone || standing() > 0) quiet = 0;
            else if (++quiet >= quarter) { quiet = 0; if (water < most) water++; }
            minute += 1;
            if (minute % 1440 == 0) for (Man m : men) m.want = m.need;
            return true;
        }
        World on(int n) {
            for (int i = 0; i < n; i++) minute();
            return this;
        }
    }

    // ---- texts

    static final class Word {
        final String text;
        final int place;
        final boolean glued;
        Word(String text, int place, boolean glued) { this.text = text; this.place = place; this.glued = glued; }
    }

    static List<Word> words(String tape) {
        List<Word> words = new ArrayList<>();
        boolean wordBefore = false;
        for (int i = 0; i < tape.length(); ) {
            String found = null;
            for (String sort : new String[] {"[a-z]+", "[0-9]+"}) {
                int to = i;
                while (to < tape.length() && tape.substring(i, to + 1).matches(sort)) to++;
                if (to > i) found = tape.substring(i, to);
            }
            if (found != null) words.add(new Word(found, i, wordBefore));
            else if (tape.charAt(i) != ' ') words.add(new Word(tape.substring(i, i + 1), i, false));
            wordBefore = found != null;
            i += found != null ? found.length() : 1;
        }
        return words;
    }

    static String names(String key) {
        return key.equals("leave") ? "tsa" : key.equals("stay") ? "awn" : "ge";
    }

    /** The fault's place, or -1: a machine that goes from word to word with the open brackets on a pile. */
    static int fault(String tape) {
        List<Word> words = words(tape);
        if (words.isEmpty()) return tape.length();
        String key = words.get(0).text;
        if (!List.of("leave", "stay", "fine").contains(key)) return words.get(0).place;
        boolean wantsPiece = true, compared = false;
        int nots = 0, pending = 0;
        List<int[]> open = new ArrayList<>();
        for (Word w : words.subList(1, words.size())) {
            String t = w.text;
            if (wantsPiece) {
                boolean piece = t.matches("[0-9]{1,4}") || t.matches("[a-z]") && names(key).contains(t);
                if (piece && !w.glued) { wantsPiece = false; nots -= pending; pending = 0; }
                else if (t.equals("!") && nots < 8) { nots++; pending++; }
                else if (t.equals("(") && open.size() < 8) { open.add(new int[] {pending, compared ? 1 : 0}); pending = 0; compared = false; }
                else return w.place;
            } else if ("&|".contains(t)) { wantsPiece = true; compared = false; }
            else if ("<=>".contains(t) && !compared) { wantsPiece = true; compared = true; }
            else if ("+-*/".contains(t)) wantsPiece = true;
            else if (t.equals(")") && !open.isEmpty()) {
                int[] was = open.remove(open.size() - 1);
                nots -= was[0];
                compared = was[1] == 1;
            } else return w.place;
        }
        return wantsPiece || !open.isEmpty() ? tape.length() : -1;
    }

    static final class Law {
        final List<Word> words;
        Law(String tape) { words = words(tape); }
        int pieces() {
            int n = 0;
            for (Word w : words.subList(1, words.size())) if (w.text.matches("[a-z0-9]+")) n++;
            return n;
        }
        int gives(int... named) { return part(1, words.size(), named); }

        private int part(int from, int to, int[] named) {
            for (String level : new String[] {"|", "&", "<=>", "+-", "*/"}) {
                int depth = 0;
                for (int i = to - 1; i > from; i--) {
                    String t = words.get(i).text;
                    if (t.equals(")")) depth++;
                    if (t.equals("(")) depth--;
                    if (depth == 0 && level.contains(t)) return joined(t, part(from, i, named), part(i + 1, to, named));
                }
            }
            String t = words.get(from).text;
            if (t.equals("!")) return part(from + 1, to, named) == 0 ? 1 : 0;
            if (t.equals("(")) return part(from + 1, to - 1, named);
            if (t.matches("[0-9]+")) return Integer.parseInt(t);
            return named[names(words.get(0).text).indexOf(t)];
        }
        private static int joined(String sign, int l, int r) {
            if (sign.equals("|")) return l != 0 | r != 0 ? 1 : 0;
            if (sign.equals("&")) return l != 0 & r != 0 ? 1 : 0;
            if (sign.equals("<")) return l < r ? 1 : 0;
            if (sign.equals("=")) return l == r ? 1 : 0;
            if (sign.equals(">")) return l > r ? 1 : 0;
            if (sign.equals("+")) return l + r;
            if (sign.equals("-")) return l - r;
            if (sign.equals("*")) return l * r;
            return r == 0 ? 0 : l / r;
        }
    }

    // ---- the face

    World now = new World();
    World image = null;
    String tape = "";
    List<Integer> waiting = new ArrayList<>();
    Object[] sheets = new Object[4];
    Object[] slots = new Object[5];

    private static boolean in(int v, int least, int most) { return least <= v && v <= most; }
    private boolean isMan(int c) { return in(c, 0, now.men.size() - 1); }

    public int comer(int kind, int a, int away, int need) {
        if (!in(kind, 0, 5) || !in(a, 0, 59) || !in(away, 1, 30) || !in(need, 0, 9)) return BAD;
        if (now.men.size() == 8) return FULL;
        Man m = new Man();
        m.kind = kind; m.a = a; m.away = away; m.need = need; m.want = need;
        now.men.add(m);
        return now.men.size() - 1;
    }
    public int told(int c, int what) {
        if (!isMan(c) || !in(what, 0, 14)) return BAD;
        Man m = now.men.get(c);
        int where = List.of("home", "out", "stands", "back").indexOf(m.where);
        return new int[] {m.kind, m.a, m.away, m.need, m.want, where, m.left, m.waited, m.since, m.got, m.empty, m.visits,
            m.ways().worth(m), m.ways().leaves(now, m) ? 1 : 0, m.ways().stays(now, m)}[what];
    }
    public int as(int c, int kind) {
        if (!isMan(c) || !in(kind, 0, 5)) return BAD;
        return isOne(now.men.get(c).kind, kind) ? now.men.get(c).a : KIND;
    }
    public int turns(int c, int kind) {
        if (!isMan(c) || !in(kind, 0, 5)) return BAD;
        int was = now.men.get(c).kind;
        now.men.get(c).kind = kind;
        return was;
    }
    public int set(int c, int what, int v) {
        if (!isMan(c)) return BAD;
        Man m = now.men.get(c);
        int was = told(c, what);
        if (what == 1 && in(v, 0, 59)) m.a = v;
        else if (what == 2 && in(v, 1, 30)) m.away = v;
        else if (what == 3 && in(v, 0, 9)) m.need = v;
        else if (what == 4 && in(v, 0, 9)) m.want = v;
        else return BAD;
        return was;
    }
    public int well(int what, int v) {
        int was;
        if (what == 0 && in(v, 1, 60)) { was = now.quarter; now.quarter = v; }
        else if (what == 1 && in(v, 0, 99)) { was = now.most; now.most = v; }
        else if (what == 2 && in(v, 0, 99)) { was = now.water; now.water = v; }
        else if (what == 3 && in(v, 1, 9)) { was = now.bucket; now.bucket = v; }
        else if (what == 4 && in(v, 0, 100)) { was = now.forgets; now.forgets = v; }
        else return BAD;
        return was;
    }
    public int deal(int n) {
        if (!in(n, 1, 8)) return BAD;
        int came = 0;
        while (came < n && now.men.size() < 8) {
            int[] d = {now.draw(), now.draw(), now.draw(), now.draw()};
            comer(d[0] % 6, d[1] % 60, 1 + d[2] % 30, d[3] % 10);
            came++;
        }
        return came;
    }
    public int seed(int v) { int was = now.z; now.z = v; return was; }

    public int run(int n) { return in(n, 1, 300) ? now.on(n).got() : BAD; }
    public int behind(int n, int what) {
        if (!in(n, 0, 300) || !in(what, 0, 3)) return BAD;
        World w = now.twin();
        int stood = 0;
        for (int i = 0; i < n; i++) if (w.minute() && w.standing() > 0) stood++;
        return new int[] {w.water, w.got(), w.empty(), stood}[what];
    }
    public int fullIn(int k) {
        if (!in(k, 0, 99)) return BAD;
        World w = now.twin();
        w.men.clear();
        w.minute = 0;
        for (int i = 0; i < 10000; i++) {
            if (w.water >= k) return i;
            w.minute();
        }
        return NONE;
    }
    public int best(int c, int n, int what) {
        if (!isMan(c) || !in(n, 1, 120) || !in(what, 0, 1)) return BAD;
        int habit = -1, most = -1;
        for (int a = 59; a >= 0; a--) {
            World w = now.twin();
            w.men.get(c).a = a;
            int got = w.on(n).men.get(c).got;
            if (got >= most) { most = got; habit = a; }
        }
        return what == 0 ? habit : most;
    }
    public int alone(int c, int n) {
        if (!isMan(c) || !in(n, 1, 300)) return BAD;
        World w = now.twin();
        // The others are home and want nothing, so only the one that is asked for does anything at all.
        Man one = w.men.get(c);
        w.men.clear();
        w.men.add(one);
        return w.on(n).men.get(0).got - now.twin().on(n).men.get(c).got;
    }
    public long mean(int part) {
        if (!in(part, 0, 1)) return BAD;
        if (now.visits() == 0) return part;
        int above = now.waits, below = now.visits();
        for (int d = below; d > 1; d--) if (above % d == 0 && below % d == 0) { above /= d; below /= d; }
        return part == 0 ? above : below;
    }
    public int least() {
        if (now.men.isEmpty()) return NONE;
        int most = now.men.stream().mapToInt(m -> m.empty).max().getAsInt();
        int fewest = now.men.stream().filter(m -> m.empty == most).mapToInt(m -> m.got).min().getAsInt();
        for (int i = 0; ; i++) if (now.men.get(i).empty == most && now.men.get(i).got == fewest) return i;
    }
    public int fine(int c) {
        if (!isMan(c)) return BAD;
        Law law = now.law("fine");
        Man m = now.men.get(c);
        return law == null ? m.empty : law.gives(m.got, m.empty);
    }

    public int feed(int a, int b, int c) {
        if (tape.length() + 12 > 96) return FULL;
        StringBuilder more = new StringBuilder(tape);
        for (byte one : java.nio.ByteBuffer.allocate(12).putInt(a).putInt(b).putInt(c).array()) more.append((char) (one & 255));
        tape = more.toString();
        return tape.length();
    }
    public int trim(int n) {
        if (!in(n, 0, tape.length())) return BAD;
        tape = tape.substring(0, n);
        return n;
    }
    public int text() {
        String read = tape;
        tape = "";
        int fault = fault(read);
        if (fault >= 0) return -100 - fault;
        if (now.laws.size() == 14) return FULL;
        now.laws.add(new Law(read));
        return now.laws.size() - 1;
    }
    public int textTold(int text, int what) {
        if (!in(text, 0, now.laws.size() - 1) || !in(what, 0, 1)) return BAD;
        Law law = now.laws.get(text);
        return what == 1 ? law.pieces() : List.of("leave", "stay", "fine").indexOf(law.words.get(0).text);
    }
    public int why(int key) {
        if (!in(key, 0, 2)) return BAD;
        for (int i = now.laws.size() - 1; i >= 0; i--) if (textTold(i, 0) == key) return i;
        return NONE;
    }

    /** Runs on the machine's own arrays: what it throws is the finding. */
    private interface Act { int go(); }
    private static int finding(Act act) {
        try { return act.go(); }
        catch (NullPointerException e) { return NOTHING; }
        catch (ClassCastException | ArrayStoreException e) { return KIND; }
        catch (IndexOutOfBoundsException e) { return INDEX; }
        catch (NegativeArraySizeException e) { return SIZE; }
        catch (ArithmeticException e) { return NO; }
    }

    public int sheet(int s, int sort, int n) {
        if (!in(s, 0, 3) || !in(sort, -1, 1) || sort >= 0 && n > 24) return BAD;
        return finding(() -> {
            sheets[s] = sort == -1 ? null : sort == 0 ? (Object) new short[n] : new float[n];
            return sort == -1 ? 0 : n;
        });
    }
    private static int length(Object sheet) { return java.lang.reflect.Array.getLength(sheet); }
    private static int number(Object sheet, int place) {
        if (sheet instanceof short[]) return ((short[]) sheet)[place];
        float v = ((float[]) sheet)[place];
        if (Float.isNaN(v)) throw new ClassCastException();
        return (int) v;
    }
    private static boolean isNumber(Object sheet, int place) {
        return sheet instanceof short[] || !Float.isNaN(((float[]) sheet)[place]);
    }
    public int mark(int s, int place, int v) {
        if (!in(s, 0, 3)) return BAD;
        return finding(() -> {
            int size = length(sheets[s]);
            if (place < 0 || place >= size) throw new IndexOutOfBoundsException();
            if (sheets[s] instanceof short[]) {
                if (v == NONE) throw new ClassCastException();
                ((short[]) sheets[s])[place] = (short) v;
                return 1;
            }
            if (v != NONE && !in(v, -99999, 99999)) return BAD;
            ((float[]) sheets[s])[place] = v == NONE ? Float.NaN : v;
            return 1;
        });
    }
    public int pour(int s) {
        if (!in(s, 0, 3)) return BAD;
        return finding(() -> {
            int otherwise = 0;
            for (int i = 0; i < length(sheets[s]) && i < now.men.size(); i++) {
                if (!isNumber(sheets[s], i)) continue;
                int was = now.men.get(i).need;
                now.men.get(i).need = Math.min(9, Math.max(0, number(sheets[s], i)));
                if (was != now.men.get(i).need) otherwise++;
            }
            return otherwise;
        });
    }
    public int explained(int s, int what) {
        if (!in(s, 0, 3) || !in(what, 0, 1)) return BAD;
        return finding(() -> {
            int quarter = 0, least = Integer.MAX_VALUE;
            for (int q = 60; q >= 1; q--) {
                int sum = 0;
                for (int k = 0; k < length(sheets[s]); k++) {
                    if (!isNumber(sheets[s], k)) continue;
                    int more = (now.quiet + 10 * k) / q, water = now.water;
                    while (more-- > 0 && water < now.most) water++;
                    sum += Math.abs(number(sheets[s], k) - water);
                }
                length(sheets[s]);
                if (sum <= least) { least = sum; quarter = q; }
            }
            return what == 0 ? quarter : least;
        });
    }
    public int copy(int from, int place, int to, int at, int many) {
        if (!in(from, 0, 3) || !in(to, 0, 3)) return BAD;
        return finding(() -> {
            System.arraycopy(sheets[from], place, sheets[to], at, many);
            return many;
        });
    }
    public int lay(int slot, int thing, int k) {
        if (!in(slot, 0, 4) || !in(thing, 0, 3)) return BAD;
        if (thing == 1 && !isMan(k) || thing == 2 && !in(k, 0, 3)) return BAD;
        if (thing == 2 && sheets[k] == null) return NOTHING;
        Object was = slots[slot];
        if (thing == 0) slots[slot] = null;
        if (thing == 1) slots[slot] = now.men.get(k).twin();
        if (thing == 2) slots[slot] = sheets[k] instanceof short[] ? (Object) ((short[]) sheets[k]).clone() : ((float[]) sheets[k]).clone();
        if (thing == 3) slots[slot] = k;
        return was == null ? 0 : was instanceof Man ? 1 : was instanceof Integer ? 3 : 2;
    }
    public int ask(int slot, int kind) {
        if (!in(slot, 0, 4) || !in(kind, 0, 5)) return BAD;
        if (slots[slot] == null) return NOTHING;
        return finding(() -> {
            Man m = (Man) slots[slot];
            return KINDS.get(kind).getClass().cast(m.ways()).worth(m);
        });
    }
    public int item(int slot, int place) {
        if (!in(slot, 0, 4)) return BAD;
        if (slots[slot] == null) return NOTHING;
        return finding(() -> number(slots[slot], place));
    }
    public int rest(int slot, int n) {
        if (!in(slot, 0, 4)) return BAD;
        if (slots[slot] == null) return NOTHING;
        return finding(() -> (Integer) slots[slot] % n);
    }

    public int tell(int v) {
        if (waiting.size() == 60) return FULL;
        waiting.add(v);
        return waiting.size();
    }
    List<Integer> minutesTold(int n) {
        List<Integer> rows = new ArrayList<>();
        World w = image.twin();
        for (int i = 0; i < n && w.minute(); i++) { rows.add(w.water); rows.add(w.standing()); }
        return rows;
    }
    public int check(int n) {
        List<Integer> said = waiting;
        waiting = new ArrayList<>();
        if (!in(n, 1, 30)) return BAD;
        if (image == null) return NO;
        List<Integer> due = minutesTold(n);
        if (said.equals(due)) return 0;
        int same = 0;
        while (same < said.size() && same < due.size() && said.get(same).equals(due.get(same))) same++;
        return 1 + same;
    }
    public int keep() { image = now.twin(); return image.men.size(); }
    public int back() {
        if (image == null) return NO;
        now = image.twin();
        return now.men.size();
    }
    public int count(int what) {
        if (!in(what, 0, 11)) return BAD;
        return new int[] {now.men.size(), now.standing(), now.minute, now.water, now.quiet, now.waits, now.got(), now.empty(),
            now.laws.size(), waiting.size(), tape.length(), now.z}[what];
    }
}
