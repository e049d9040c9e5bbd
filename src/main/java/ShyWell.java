import java.util.Arrays;

/** The well that fills when nobody waits, as the document tells it; README.md says how it is used. */
public final class ShyWell {
    public static final int BAD = -1000000001, NO = -1000000002, FULL = -1000000003, NONE = -1000000005, NOTHING = -1000000011, KIND = -1000000012, INDEX = -1000000013, SIZE = -1000000014;

    private static final int COMER = 0, GUESS = 1, WAITING = 2, KNOWING = 3, STUBBORN = 4, SHY = 5;
    private static final int[] ABOVE = {-1, COMER, COMER, GUESS, WAITING, COMER};

    private static final int HOME = 0, OUT = 1, STANDS = 2, BACK = 3;

    private static final int A = 1, AWAY = 2, NEED = 3, WANT = 4;
    // By the numbers that told and set give them, KIND being the first.
    private static final int[] HABIT_LEAST = {0, 0, 1, 0, 0};
    private static final int[] HABIT_MOST = {5, 59, 30, 9, 9};

    // By the numbers that well gives them.
    private static final int[] WELL_LEAST = {1, 0, 0, 1, 0};
    private static final int[] WELL_MOST = {60, 99, 99, 9, 100};

    private static final int LEAVE = 0, STAY = 1, FINE = 2, KEYS = 3;

    private static final int HOUR = 60, DAY = 1440, LAST_MINUTE = 99999, LONGEST_RUN = 300;
    private static final int MOST_COMERS = 8, MOST_TEXTS = 14, MOST_BYTES = 96, MOST_TOLD = 60;
    private static final int MOST_SHEETS = 4, MOST_SLOTS = 5, MOST_PLACES = 24, MOST_OPEN = 8;

    private static final int MISSING = -1, SHORTS = 0, FLOATS = 1;
    private static final int EMPTY_SLOT = 0, COMER_SLOT = 1, SHEET_SLOT = 2, NUMBER_SLOT = 3;

    private final Scene now = new Scene();
    private final Scene thought = new Scene();
    private final Scene image = new Scene();
    private boolean imageKept = false;
    private final Reader reader = new Reader();
    private final Row tape = reader.tape;
    private final Row waiting = new Row(MOST_TOLD);
    private final Sheet[] sheets = new Sheet[MOST_SHEETS];
    private final Slot[] slots = new Slot[MOST_SLOTS];

    public ShyWell() {
        for (int i = 0; i < sheets.length; i++) sheets[i] = new Sheet();
        for (int i = 0; i < slots.length; i++) slots[i] = new Slot();
    }

    // ---- comers, the well

    public int comer(int kind, int a, int away, int need) {
        if (!isKind(kind) || !fitsHabit(A, a) || !fitsHabit(AWAY, away) || !fitsHabit(NEED, need)) return BAD;
        if (now.size >= MOST_COMERS) return FULL;
        now.admit(kind, a, away, need);
        return now.size - 1;
    }

    public int told(int comer, int what) {
        Comer one = now.comerAt(comer);
        if (one == null || !within(what, 0, 14)) return BAD;
        switch (what) {
            case 0: return one.kind;
            case 5: return one.where;
            case 6: return one.left;
            case 7: return one.waited;
            case 8: return one.since;
            case 9: return one.got;
            case 10: return one.empty;
            case 11: return one.visits;
            case 12: return one.worth();
            case 13: return now.wouldLeave(one) ? 1 : 0;
            case 14: return now.staysOf(one);
            default: return one.habit(what);
        }
    }

    public int as(int comer, int kind) {
        Comer one = now.comerAt(comer);
        if (one == null || !isKind(kind)) return BAD;
        return isUnder(one.kind, kind) ? one.a : KIND;
    }

    public int turns(int comer, int kind) {
        Comer one = now.comerAt(comer);
        if (one == null || !isKind(kind)) return BAD;
        int before = one.kind;
        one.kind = kind;
        return before;
    }

    public int set(int comer, int what, int v) {
        Comer one = now.comerAt(comer);
        if (one == null || !within(what, A, WANT) || !fitsHabit(what, v)) return BAD;
        int before = one.habit(what);
        one.changeHabit(what, v);
        return before;
    }

    public int well(int what, int v) {
        if (!within(what, 0, WELL_LEAST.length - 1) || !within(v, WELL_LEAST[what], WELL_MOST[what])) return BAD;
        return now.change(what, v);
    }

    public int deal(int n) {
        if (!within(n, 1, MOST_COMERS)) return BAD;
        int came = Math.min(n, MOST_COMERS - now.size);
        for (int i = 0; i < came; i++) {
            int kind = now.draw() % ABOVE.length;
            int a = now.draw() % 60;
            int away = 1 + now.draw() % 30;
            int need = now.draw() % 10;
            now.admit(kind, a, away, need);
        }
        return came;
    }

    public int seed(int v) {
        int before = now.z;
        now.z = v;
        return before;
    }

    // ---- minutes

    public int run(int n) {
        if (!within(n, 1, LONGEST_RUN)) return BAD;
        now.advance(n);
        return now.gotOfAll();
    }

    public int behind(int n, int what) {
        if (!within(n, 0, LONGEST_RUN) || !within(what, 0, 3)) return BAD;
        thought.become(now);
        int stoodBy = thought.advance(n);
        switch (what) {
            case 0: return thought.water;
            case 1: return thought.gotOfAll();
            case 2: return thought.emptyOfAll();
            default: return stoodBy;
        }
    }

    public int fullIn(int k) {
        if (!within(k, 0, 99)) return BAD;
        if (now.water >= k) return 0;
        if (k > now.most) return NONE;
        // A QUARTER that was made shorter than QUIET still needs the minute in which it is looked at.
        int firstBucket = Math.max(1, now.quarter - now.quiet);
        return firstBucket + (k - now.water - 1) * now.quarter;
    }

    public int best(int comer, int n, int what) {
        if (now.comerAt(comer) == null || !within(n, 1, 120) || !within(what, 0, 1)) return BAD;
        int bestHabit = 0;
        int mostGot = -1;
        for (int a = HABIT_LEAST[A]; a <= HABIT_MOST[A]; a++) {
            thought.become(now);
            Comer one = thought.comerAt(comer);
            if (one == null) return BAD;
            one.a = a;
            thought.advance(n);
            if (one.got > mostGot) {
                mostGot = one.got;
                bestHabit = a;
            }
        }
        return what == 0 ? bestHabit : mostGot;
    }

    public int alone(int comer, int n) {
        if (now.comerAt(comer) == null || !within(n, 1, LONGEST_RUN)) return BAD;
        thought.become(now);
        Comer one = thought.comerAt(comer);
        if (one == null) return BAD;
        thought.advance(n);
        int among = one.got;
        thought.become(now);
        thought.keepOthersHome(comer);
        thought.advance(n);
        return one.got - among;
    }

    public long mean(int part) {
        if (!within(part, 0, 1)) return BAD;
        long visits = now.visitsOfAll();
        if (visits == 0) return part;
        long shared = greatestShared(now.waits, visits);
        if (shared == 0) return part;
        return (part == 0 ? now.waits : visits) / shared;
    }

    public int least() {
        int found = NONE;
        Comer worst = null;
        for (int i = 0; i < now.size; i++) {
            Comer one = now.comerAt(i);
            if (one != null && (worst == null || one.faredWorse(worst))) {
                worst = one;
                found = i;
            }
        }
        return found;
    }

    public int fine(int comer) {
        Comer one = now.comerAt(comer);
        if (one == null) return BAD;
        Text law = now.lawOf(FINE);
        return law == null ? one.empty : law.value(one.got, one.empty, 0);
    }

    // ---- texts

    public int feed(int a, int b, int c) {
        if (tape.size + 12 > MOST_BYTES) return FULL;
        feedBytesOf(a);
        feedBytesOf(b);
        feedBytesOf(c);
        return tape.size;
    }

    public int trim(int n) {
        if (!within(n, 0, tape.size)) return BAD;
        tape.size = n;
        return n;
    }

    public int text() {
        boolean sound = reader.reads();
        tape.size = 0;
        if (!sound) return -100 - reader.place;
        if (now.texts >= MOST_TEXTS) return FULL;
        now.addLaw(reader.written());
        return now.texts - 1;
    }

    public int textTold(int text, int what) {
        Text law = now.lawAt(text);
        if (law == null || !within(what, 0, 1)) return BAD;
        return what == 0 ? law.key : law.pieces;
    }

    public int why(int key) {
        if (!within(key, 0, KEYS - 1)) return BAD;
        int text = now.counting[key];
        return text < 0 ? NONE : text;
    }

    // ---- sheets, slots

    public int sheet(int sheet, int sort, int n) {
        Sheet one = sheetAt(sheet);
        if (one == null || !within(sort, MISSING, FLOATS)) return BAD;
        if (sort == MISSING) {
            one.start(MISSING, 0);
            return 0;
        }
        if (n > MOST_PLACES) return BAD;
        if (n < 0) return SIZE;
        one.start(sort, n);
        return n;
    }

    public int mark(int sheet, int place, int v) {
        Sheet one = sheetAt(sheet);
        if (one == null) return BAD;
        if (one.sort == MISSING) return NOTHING;
        if (!within(place, 0, one.size - 1)) return INDEX;
        if (one.sort == SHORTS) {
            if (v == NONE) return KIND;
            one.places[place] = (short) v;
            return 1;
        }
        if (v != NONE && !within(v, -99999, 99999)) return BAD;
        one.places[place] = v;
        return 1;
    }

    public int pour(int sheet) {
        Sheet one = sheetAt(sheet);
        if (one == null) return BAD;
        if (one.sort == MISSING) return NOTHING;
        int changed = 0;
        for (int i = 0; i < now.size && i < one.size; i++) {
            Comer drinker = now.comerAt(i);
            if (drinker == null || one.places[i] == NONE) continue;
            int need = held(one.places[i], HABIT_LEAST[NEED], HABIT_MOST[NEED]);
            if (need != drinker.need) changed++;
            drinker.need = need;
        }
        return changed;
    }

    public int explained(int sheet, int what) {
        Sheet one = sheetAt(sheet);
        if (one == null || !within(what, 0, 1)) return BAD;
        if (one.sort == MISSING) return NOTHING;
        int bestQuarter = WELL_LEAST[0];
        int leastOff = now.differences(one, bestQuarter);
        for (int quarter = bestQuarter + 1; quarter <= WELL_MOST[0]; quarter++) {
            int off = now.differences(one, quarter);
            if (off < leastOff) {
                leastOff = off;
                bestQuarter = quarter;
            }
        }
        return what == 0 ? bestQuarter : leastOff;
    }

    public int copy(int from, int place, int to, int at, int many) {
        Sheet source = sheetAt(from);
        Sheet target = sheetAt(to);
        if (source == null || target == null) return BAD;
        if (source.sort == MISSING || target.sort == MISSING) return NOTHING;
        if (source.sort != target.sort) return KIND;
        if (!source.hasPlaces(place, many) || !target.hasPlaces(at, many)) return INDEX;
        System.arraycopy(source.places, place, target.places, at, many);
        return many;
    }

    public int lay(int slot, int thing, int k) {
        Slot one = slotAt(slot);
        if (one == null || !within(thing, EMPTY_SLOT, NUMBER_SLOT)) return BAD;
        int before = one.thing;
        if (thing == COMER_SLOT) {
            Comer laid = now.comerAt(k);
            if (laid == null) return BAD;
            one.comer.become(laid);
        } else if (thing == SHEET_SLOT) {
            Sheet laid = sheetAt(k);
            if (laid == null) return BAD;
            if (laid.sort == MISSING) return NOTHING;
            one.sheet.become(laid);
        } else if (thing == NUMBER_SLOT) {
            one.number = k;
        }
        one.thing = thing;
        return before;
    }

    public int ask(int slot, int kind) {
        Slot one = slotAt(slot);
        if (one == null || !isKind(kind)) return BAD;
        if (one.thing == EMPTY_SLOT) return NOTHING;
        if (one.thing != COMER_SLOT || !isUnder(one.comer.kind, kind)) return KIND;
        return one.comer.worth();
    }

    public int item(int slot, int place) {
        Slot one = slotAt(slot);
        if (one == null) return BAD;
        if (one.thing == EMPTY_SLOT) return NOTHING;
        if (one.thing != SHEET_SLOT) return KIND;
        if (!within(place, 0, one.sheet.size - 1)) return INDEX;
        int v = one.sheet.places[place];
        return v == NONE ? KIND : v;
    }

    public int rest(int slot, int n) {
        Slot one = slotAt(slot);
        if (one == null) return BAD;
        if (one.thing == EMPTY_SLOT) return NOTHING;
        if (one.thing != NUMBER_SLOT) return KIND;
        return n == 0 ? NO : one.number % n;
    }

    // ---- rows, images

    public int tell(int v) {
        if (waiting.size >= MOST_TOLD) return FULL;
        waiting.add(v);
        return waiting.size;
    }

    public int check(int n) {
        int told = waiting.size;
        // None wait then, whatever is answered; their places keep what was told.
        waiting.size = 0;
        if (!within(n, 1, 30)) return BAD;
        if (!imageKept) return NO;
        thought.become(image);
        int minutes = Math.min(n, LAST_MINUTE - thought.minute);
        for (int i = 0; i < minutes; i++) {
            thought.advance(1);
            if (!wasTold(2 * i, told, thought.water)) return 2 * i + 1;
            if (!wasTold(2 * i + 1, told, thought.standing())) return 2 * i + 2;
        }
        return told > 2 * minutes ? 2 * minutes + 1 : 0;
    }

    public int keep() {
        image.become(now);
        imageKept = true;
        return now.size;
    }

    public int back() {
        if (!imageKept) return NO;
        now.become(image);
        return now.size;
    }

    public int count(int what) {
        switch (what) {
            case 0: return now.size;
            case 1: return now.standing();
            case 2: return now.minute;
            case 3: return now.water;
            case 4: return now.quiet;
            case 5: return now.waits;
            case 6: return now.gotOfAll();
            case 7: return now.emptyOfAll();
            case 8: return now.texts;
            case 9: return waiting.size;
            case 10: return tape.size;
            case 11: return now.z;
            default: return BAD;
        }
    }

    // ---- helpers

    private static boolean within(int v, int least, int most) {
        return v >= least && v <= most;
    }

    private static int held(int v, int least, int most) {
        return Math.max(least, Math.min(most, v));
    }

    private static boolean isKind(int kind) {
        return within(kind, 0, ABOVE.length - 1);
    }

    private static boolean isUnder(int kind, int wanted) {
        int at = kind;
        for (int i = 0; i < ABOVE.length && isKind(at); i++) {
            if (at == wanted) return true;
            at = ABOVE[at];
        }
        return false;
    }

    private static boolean fitsHabit(int what, int v) {
        return within(what, A, WANT) && within(v, HABIT_LEAST[what], HABIT_MOST[what]);
    }

    private static long greatestShared(long a, long b) {
        long larger = a;
        long smaller = b;
        // Euclid's rests at least halve every two turns, so a long needs fewer than 128.
        for (int i = 0; i < 128 && smaller != 0; i++) {
            long left = larger % smaller;
            larger = smaller;
            smaller = left;
        }
        return larger;
    }

    private void feedBytesOf(int v) {
        for (int shift = 24; shift >= 0; shift -= 8) tape.add((v >>> shift) & 255);
    }

    private Sheet sheetAt(int sheet) {
        return within(sheet, 0, sheets.length - 1) ? sheets[sheet] : null;
    }

    private Slot slotAt(int slot) {
        return within(slot, 0, slots.length - 1) ? slots[slot] : null;
    }

    private boolean wasTold(int place, int told, int v) {
        return place >= 0 && place < told && place < waiting.places.length && waiting.places[place] == v;
    }

    /** A row of ints that grows up to a bound; setting its size to less forgets what is behind. */
    private static final class Row {
        private final int[] places;
        private int size = 0;

        private Row(int most) {
            places = new int[Math.max(0, most)];
        }

        private void add(int v) {
            if (size < places.length) {
                places[size] = v;
                size++;
            }
        }

        private int at(int place) {
            return place >= 0 && place < size && place < places.length ? places[place] : -1;
        }
    }

    private static final class Comer {
        private int kind, a, away, need, want;
        private int where, left, waited, since;
        private int got, empty, visits;
        // Steps 3 and 4 of a minute ask where it was as the minute began, not where it has come to by then;
        // each minute puts it anew, so it is nothing that is kept.
        private int began;

        private void start(int kind, int a, int away, int need) {
            this.kind = kind;
            this.a = a;
            this.away = away;
            this.need = need;
            want = need;
            where = HOME;
            left = 0;
            waited = 0;
            since = 0;
            got = 0;
            empty = 0;
            visits = 0;
        }

        private void become(Comer other) {
            kind = other.kind;
            a = other.a;
            away = other.away;
            need = other.need;
            want = other.want;
            where = other.where;
            left = other.left;
            waited = other.waited;
            since = other.since;
            got = other.got;
            empty = other.empty;
            visits = other.visits;
        }

        private int habit(int what) {
            switch (what) {
                case A: return a;
                case AWAY: return away;
                case NEED: return need;
                default: return want;
            }
        }

        private void changeHabit(int what, int v) {
            switch (what) {
                case A: a = v; break;
                case AWAY: away = v; break;
                case NEED: need = v; break;
                default: want = v; break;
            }
        }

        private int worth() {
            switch (kind) {
                case GUESS: return a + 3;
                case KNOWING: return 2 * (a + 3);
                case WAITING: return 60 - a;
                case STUBBORN: return 60 - a - 5;
                case SHY: return 30;
                default: return a;
            }
        }

        private boolean faredWorse(Comer other) {
            return empty != other.empty ? empty > other.empty : got < other.got;
        }

        private void turnBack() {
            where = BACK;
            left = away;
        }
    }

    /** All that an image keeps, so that what is, what is thought and what was kept go by the same minutes. */
    private static final class Scene {
        private final Text[] laws = new Text[MOST_TEXTS];
        private final int[] counting = {-1, -1, -1};
        private int texts = 0;
        private final Comer[] comers = new Comer[MOST_COMERS];
        private int size = 0;
        private int quarter = 15, most = 9, water = 3, bucket = 1, forgets = 0;
        private int quiet = 0, minute = 0, waits = 0, z = 1;

        private Scene() {
            for (int i = 0; i < comers.length; i++) comers[i] = new Comer();
        }

        private void become(Scene other) {
            System.arraycopy(other.counting, 0, counting, 0, KEYS);
            texts = other.texts;
            for (int i = 0; i < texts; i++) laws[i] = other.laws[i];
            size = other.size;
            for (int i = 0; i < size; i++) comers[i].become(other.comers[i]);
            quarter = other.quarter;
            most = other.most;
            water = other.water;
            bucket = other.bucket;
            forgets = other.forgets;
            quiet = other.quiet;
            minute = other.minute;
            waits = other.waits;
            z = other.z;
        }

        private Comer comerAt(int comer) {
            return within(comer, 0, size - 1) ? comers[comer] : null;
        }

        private void admit(int kind, int a, int away, int need) {
            if (size >= comers.length) return;
            comers[size].start(kind, a, away, need);
            size++;
        }

        private int change(int what, int v) {
            int before;
            switch (what) {
                case 0: before = quarter; quarter = v; break;
                case 1: before = most; most = v; break;
                case 2: before = water; water = v; break;
                case 3: before = bucket; bucket = v; break;
                default: before = forgets; forgets = v; break;
            }
            return before;
        }

        private int draw() {
            z = z * 1103515245 + 12345;
            return z >>> 8;
        }

        private void addLaw(Text law) {
            if (texts >= laws.length || !within(law.key, 0, KEYS - 1)) return;
            laws[texts] = law;
            counting[law.key] = texts;
            texts++;
        }

        private Text lawAt(int text) {
            return within(text, 0, texts - 1) ? laws[text] : null;
        }

        private Text lawOf(int key) {
            int text = key >= 0 && key < KEYS ? counting[key] : -1;
            return text >= 0 && text < texts ? laws[text] : null;
        }

        private int standing() {
            int stand = 0;
            for (int i = 0; i < size; i++) if (comers[i].where == STANDS) stand++;
            return stand;
        }

        private int gotOfAll() {
            int sum = 0;
            for (int i = 0; i < size; i++) sum += comers[i].got;
            return sum;
        }

        private int emptyOfAll() {
            int sum = 0;
            for (int i = 0; i < size; i++) sum += comers[i].empty;
            return sum;
        }

        private int visitsOfAll() {
            int sum = 0;
            for (int i = 0; i < size; i++) sum += comers[i].visits;
            return sum;
        }

        private boolean leaveHolds(Comer one) {
            Text law = lawOf(LEAVE);
            if (law == null) return minute % HOUR == one.a;
            return law.value(minute % DAY, one.since, one.a) != 0;
        }

        private boolean wouldLeave(Comer one) {
            switch (one.kind) {
                case GUESS: return one.since >= one.a;
                case KNOWING: return one.since >= one.a && water > 0;
                case SHY: return standing() == 0 && leaveHolds(one);
                default: return leaveHolds(one);
            }
        }

        private int staysOf(Comer one) {
            Text law = lawOf(STAY);
            int asComer = law == null ? 0 : held(law.value(one.a, water, standing()), 0, 99);
            switch (one.kind) {
                case WAITING: return asComer + one.a;
                case STUBBORN: return 2 * (asComer + one.a);
                default: return asComer;
            }
        }

        /** Lets minutes go by and answers how many of them ended with somebody standing. */
        private int advance(int n) {
            int stoodBy = 0;
            for (int i = 0; i < n && minute < LAST_MINUTE; i++) {
                for (int k = 0; k < size; k++) comers[k].began = comers[k].where;
                letLeave();
                boolean came = letCome();
                letWait();
                letReachHome();
                boolean stoodAt = standing() > 0;
                if (stoodAt) stoodBy++;
                fill(!stoodAt && !came);
                endMinute();
            }
            return stoodBy;
        }

        private void letLeave() {
            for (int i = 0; i < size; i++) {
                Comer one = comers[i];
                if (one.where != HOME) continue;
                if (one.want > 0 && wouldLeave(one) && draw() % 100 >= forgets) {
                    one.where = OUT;
                    one.left = one.away;
                } else {
                    one.since++;
                }
            }
        }

        private boolean letCome() {
            boolean came = false;
            for (int i = 0; i < size; i++) {
                Comer one = comers[i];
                if (one.where != OUT) continue;
                one.left--;
                if (one.left == 0) {
                    came = true;
                    arrive(one);
                }
            }
            return came;
        }

        private void arrive(Comer one) {
            one.visits++;
            if (water > 0 && standing() == 0) {
                int taken = Math.min(bucket, Math.min(one.want, water));
                water -= taken;
                one.want -= taken;
                one.got += taken;
                one.turnBack();
            } else if (staysOf(one) > 0) {
                one.where = STANDS;
                one.waited = 0;
            } else {
                one.empty++;
                one.turnBack();
            }
        }

        private void letWait() {
            for (int i = 0; i < size; i++) {
                Comer one = comers[i];
                if (one.began != STANDS) continue;
                one.waited++;
                waits++;
                if (one.waited >= staysOf(one)) {
                    one.empty++;
                    one.turnBack();
                }
            }
        }

        private void letReachHome() {
            for (int i = 0; i < size; i++) {
                Comer one = comers[i];
                if (one.began != BACK) continue;
                one.left--;
                if (one.left == 0) {
                    one.where = HOME;
                    one.since = 0;
                }
            }
        }

        private void fill(boolean undisturbed) {
            if (!undisturbed) {
                quiet = 0;
                return;
            }
            quiet++;
            if (quiet >= quarter) {
                quiet = 0;
                if (water < most) water++;
            }
        }

        private void endMinute() {
            minute++;
            if (minute % DAY != 0) return;
            for (int i = 0; i < size; i++) comers[i].want = comers[i].need;
        }

        private void keepOthersHome(int comer) {
            for (int i = 0; i < size; i++) {
                if (i == comer) continue;
                comers[i].where = HOME;
                comers[i].want = 0;
                // WANT becomes NEED at the day's end, so it stays 0 only with a NEED of 0.
                comers[i].need = 0;
            }
        }

        private int differences(Sheet sheet, int byQuarter) {
            if (byQuarter <= 0) return 0;
            int sum = 0;
            for (int k = 0; k < sheet.size && k < sheet.places.length; k++) {
                if (sheet.places[k] == NONE) continue;
                int filled = Math.min(most, water + (quiet + 10 * k) / byQuarter);
                sum += Math.abs(Math.max(water, filled) - sheet.places[k]);
            }
            return sum;
        }
    }

    /** An expression behind its key, as a row of steps: what is worked out first stands first. */
    private static final class Text {
        private final int key, pieces;
        // 0 and above is a number, -1 to -3 a name, and below that a sign by its byte, made negative.
        private final int[] steps;
        private final int[] pile;

        private Text(int key, int pieces, int[] steps) {
            this.key = key;
            this.pieces = pieces;
            this.steps = steps;
            // Only numbers and names make the pile higher.
            pile = new int[Math.max(0, pieces)];
        }

        private int value(int first, int second, int third) {
            int high = 0;
            for (int step : steps) {
                if (step == -'!') {
                    if (high > 0) pile[high - 1] = pile[high - 1] == 0 ? 1 : 0;
                } else if (step < -3) {
                    if (high > 1) {
                        high--;
                        pile[high - 1] = joined(-step, pile[high - 1], pile[high]);
                    }
                } else if (high < pile.length) {
                    pile[high] = step >= 0 ? step : step == -1 ? first : step == -2 ? second : third;
                    high++;
                }
            }
            return high > 0 ? pile[0] : 0;
        }

        private static int joined(int sign, int left, int right) {
            switch (sign) {
                case '|': return left != 0 || right != 0 ? 1 : 0;
                case '&': return left != 0 && right != 0 ? 1 : 0;
                case '<': return left < right ? 1 : 0;
                case '=': return left == right ? 1 : 0;
                case '>': return left > right ? 1 : 0;
                case '+': return left + right;
                case '-': return left - right;
                case '*': return left * right;
                default: return right == 0 ? 0 : left / right;
            }
        }
    }

    /** Reads the tape as a text; where it stops before its time, place is that of the fault. */
    private static final class Reader {
        private static final int BLANK = 32;
        private static final int END = 0, LETTERS = 1, DIGITS = 2, SIGN = 3, STRAY = 4;
        private static final int TEST_LEVEL = 2, PIECE_LEVEL = 5;

        private final Row tape = new Row(MOST_BYTES);
        private final Row steps = new Row(MOST_BYTES);
        private int place, end, sort, key, pieces;

        private boolean reads() {
            steps.size = 0;
            pieces = 0;
            end = 0;
            sort = END;
            next();
            key = keyHere();
            if (key < 0) return false;
            next();
            return readsLevel(0, 0, 0) && sort == END;
        }

        private Text written() {
            return new Text(key, pieces, Arrays.copyOf(steps.places, steps.size));
        }

        private void next() {
            boolean wordBefore = sort == LETTERS || sort == DIGITS;
            int from = end;
            place = from;
            while (place < tape.size && tape.at(place) == BLANK) place++;
            sort = sortOf(tape.at(place));
            end = place;
            if (sort == END) return;
            end++;
            if (sort == SIGN) return;
            while (end < tape.size && sortOf(tape.at(end)) == sort) end++;
            boolean glued = wordBefore && place == from;
            if (glued || (sort == DIGITS && end - place > 4)) sort = STRAY;
        }

        private static int sortOf(int sign) {
            if (sign < 0) return END;
            if (sign >= 'a' && sign <= 'z') return LETTERS;
            return sign >= '0' && sign <= '9' ? DIGITS : SIGN;
        }

        private int keyHere() {
            if (isWord("leave")) return LEAVE;
            if (isWord("stay")) return STAY;
            return isWord("fine") ? FINE : -1;
        }

        private boolean isWord(String word) {
            if (sort != LETTERS || end - place != word.length()) return false;
            for (int i = 0; i < word.length(); i++) {
                if (tape.at(place + i) != word.charAt(i)) return false;
            }
            return true;
        }

        private boolean isSign(int sign) {
            return sort == SIGN && tape.at(place) == sign;
        }

        private int levelHere() {
            if (sort != SIGN) return -1;
            switch (tape.at(place)) {
                case '|': return 0;
                case '&': return 1;
                case '<': case '=': case '>': return TEST_LEVEL;
                case '+': case '-': return 3;
                case '*': case '/': return 4;
                default: return -1;
            }
        }

        /** The depths of open brackets and nots come along, for the document bounds each by itself. */
        private boolean readsLevel(int level, int brackets, int nots) {
            if (level >= PIECE_LEVEL) return readsPiece(brackets, nots);
            if (!readsLevel(level + 1, brackets, nots)) return false;
            for (int i = 0; i < MOST_BYTES && levelHere() == level; i++) {
                int sign = tape.at(place);
                next();
                if (!readsLevel(level + 1, brackets, nots)) return false;
                steps.add(-sign);
                if (level == TEST_LEVEL) break;
            }
            return true;
        }

        private boolean readsPiece(int brackets, int nots) {
            if (sort == DIGITS) return readsNumber();
            if (sort == LETTERS) return readsName();
            if (isSign('!')) {
                if (nots >= MOST_OPEN) return false;
                next();
                if (!readsPiece(brackets, nots + 1)) return false;
                steps.add(-'!');
                return true;
            }
            if (!isSign('(') || brackets >= MOST_OPEN) return false;
            next();
            if (!readsLevel(0, brackets + 1, nots) || !isSign(')')) return false;
            next();
            return true;
        }

        private boolean readsNumber() {
            int v = 0;
            for (int i = place; i < end; i++) v = v * 10 + tape.at(i) - '0';
            addPiece(v);
            return true;
        }

        private boolean readsName() {
            int name = end - place == 1 ? namesOf(key).indexOf((char) tape.at(place)) : -1;
            if (name < 0) return false;
            addPiece(-1 - name);
            return true;
        }

        private void addPiece(int step) {
            steps.add(step);
            pieces++;
            next();
        }

        private static String namesOf(int key) {
            switch (key) {
                case LEAVE: return "tsa";
                case STAY: return "awn";
                default: return "ge";
            }
        }
    }

    /** A row of shorts or floats; the floats are whole numbers, so ints hold both, NONE being NO NUMBER. */
    private static final class Sheet {
        private final int[] places = new int[MOST_PLACES];
        private int sort = MISSING;
        private int size = 0;

        private void start(int sort, int size) {
            this.sort = sort;
            this.size = held(size, 0, places.length);
            Arrays.fill(places, 0);
        }

        private void become(Sheet other) {
            sort = other.sort;
            size = other.size;
            System.arraycopy(other.places, 0, places, 0, MOST_PLACES);
        }

        private boolean hasPlaces(int from, int many) {
            return from >= 0 && many >= 0 && many <= size && from <= size - many;
        }
    }

    /** Its comer and sheet are copies of its own: what is laid stays as it was. */
    private static final class Slot {
        private final Comer comer = new Comer();
        private final Sheet sheet = new Sheet();
        private int thing = EMPTY_SLOT;
        private int number = 0;
    }
}
