import com.sun.management.ThreadMXBean;
import java.lang.management.ManagementFactory;
import java.lang.reflect.Array;
import java.lang.reflect.Field;
import java.lang.reflect.Modifier;
import java.util.ArrayDeque;
import java.util.Collections;
import java.util.Deque;
import java.util.IdentityHashMap;
import java.util.Set;

/** All calls of a run live in one room: an object is small, and no call but a sound text() makes anything. */
public final class RoomTest {
    private static final ThreadMXBean THREADS = (ThreadMXBean) ManagementFactory.getThreadMXBean();
    private static final int CALLS = 34;

    public static void main(String[] args) throws IllegalAccessException {
        newObject();
        fullObject();
        callsMakeNothing();
        Due.end();
    }

    private static void newObject() throws IllegalAccessException {
        int[] size = size(new ShyWell());
        Due.holds("a new one has " + size[0] + " objects and arrays", size[0] <= 200);
        Due.holds("a new one has " + size[1] + " fields and elements", size[1] <= 2500);
    }

    /** As many texts as ever can be made within 512 calls: each behind a feed, and room for them by going back. */
    private static void fullObject() throws IllegalAccessException {
        ShyWell x = new ShyWell();
        x.keep();
        long before = THREADS.getCurrentThreadAllocatedBytes();
        for (int round = 0; round < 17; round++) {
            for (int i = 0; i < 14; i++) {
                x.feed(0x66696e65, 0x20312b31, 0x2b312b31);
                x.text();
            }
            x.back();
        }
        long made = THREADS.getCurrentThreadAllocatedBytes() - before;
        Due.holds("238 texts take " + made + " bytes", made < 100000);
        int[] size = size(x);
        Due.holds("then it has " + size[0] + " objects and arrays", size[0] <= 300);
        Due.holds("then it has " + size[1] + " fields and elements", size[1] <= 5000);
    }

    private static int[] size(ShyWell x) throws IllegalAccessException {
        Set<Object> seen = Collections.newSetFromMap(new IdentityHashMap<>());
        Deque<Object> open = new ArrayDeque<>();
        open.add(x);
        seen.add(x);
        int fields = 0;
        while (!open.isEmpty()) {
            Object one = open.poll();
            if (one.getClass().isArray()) {
                int length = Array.getLength(one);
                fields += length;
                if (one instanceof Object[]) for (Object part : (Object[]) one) if (part != null && seen.add(part)) open.add(part);
                continue;
            }
            for (Field f : one.getClass().getDeclaredFields()) {
                if (Modifier.isStatic(f.getModifiers())) continue;
                fields++;
                f.setAccessible(true);
                Object part = f.getType().isPrimitive() ? null : f.get(one);
                if (part != null && seen.add(part)) open.add(part);
            }
        }
        return new int[] {seen.size(), fields};
    }

    private static void callsMakeNothing() {
        ShyWell x = new ShyWell();
        x.seed(5);
        x.deal(8);
        Due.text(x, "leave t>a|s=9");
        Due.text(x, "stay a+w-n");
        Due.text(x, "fine g*e");
        x.sheet(0, 1, 24);
        x.sheet(1, 0, 24);
        x.keep();
        long[] made = new long[CALLS];
        // The first time loads what the machine itself needs.
        for (int turn = 0; turn < 2; turn++) {
            for (int which = 0; which < CALLS; which++) {
                long before = THREADS.getCurrentThreadAllocatedBytes();
                call(x, which);
                made[which] = THREADS.getCurrentThreadAllocatedBytes() - before;
            }
        }
        for (int which = 0; which < CALLS; which++) Due.is("bytes made by call " + which, made[which], 0);
    }

    private static void call(ShyWell x, int which) {
        switch (which) {
            case 0: x.comer(0, 0, 1, 1); break;
            case 1: for (int what = 0; what < 15; what++) x.told(3, what); break;
            case 2: x.as(0, 0); break;
            case 3: x.turns(0, 4); break;
            case 4: x.set(0, 1, 5); break;
            case 5: x.well(0, 3); break;
            case 6: x.deal(8); break;
            case 7: x.seed(3); break;
            case 8: x.run(300); break;
            case 9: x.behind(300, 1); break;
            case 10: x.fullIn(9); break;
            case 11: x.best(2, 120, 0); break;
            case 12: x.alone(2, 300); break;
            case 13: x.mean(0); break;
            case 14: x.least(); break;
            case 15: x.fine(1); break;
            case 16: x.feed(0x66696e65, 0x20282831, 0x2b312b31); break;
            case 17: x.trim(11); break;
            case 18: x.text(); break; // has a fault: its brackets are open
            case 19: x.textTold(1, 1); break;
            case 20: x.why(1); break;
            case 21: x.sheet(2, 1, 24); break;
            case 22: x.mark(0, 3, ShyWell.NONE); break;
            case 23: x.pour(0); break;
            case 24: x.explained(0, 0); break;
            case 25: x.copy(0, 0, 0, 1, 23); break;
            case 26: x.lay(0, 1, 3); x.lay(1, 2, 0); x.lay(2, 3, 9); break;
            case 27: x.ask(0, 0); break;
            case 28: x.item(1, 2); break;
            case 29: x.rest(2, 5); break;
            case 30: x.tell(9); break;
            case 31: x.check(30); break;
            case 32: x.keep(); x.back(); break;
            default: for (int what = 0; what < 12; what++) x.count(what); break;
        }
    }
}
