import com.sun.management.ThreadMXBean;
import java.lang.management.ManagementFactory;
import java.lang.reflect.Array;
import java.lang.reflect.Field;
import java.lang.reflect.Modifier;
import java.util.ArrayList;
import java.util.IdentityHashMap;
import java.util.List;

/** All calls of one run live in one room: an object is small when it is made, and calls make nothing more. */
public final class ThumbBookRoom extends Desk {
    static final int OBJECTS = 250;
    static final int ELEMENTS = 7000;
    static int objects;
    static int elements;
    static long seen;

    // ---- what hangs on an object

    static void measure(Object root) throws IllegalAccessException {
        objects = 0;
        elements = 0;
        IdentityHashMap<Object, Object> found = new IdentityHashMap<>();
        List<Object> open = new ArrayList<>(List.of(root));
        while (!open.isEmpty()) {
            Object o = open.remove(open.size() - 1);
            if (found.put(o, o) != null) {
                continue;
            }
            objects++;
            if (o.getClass().isArray()) {
                intoArray(o, open);
            } else {
                intoFields(o, open);
            }
        }
    }

    static void intoArray(Object row, List<Object> open) {
        elements += Array.getLength(row);
        for (int i = 0; i < Array.getLength(row) && !row.getClass().getComponentType().isPrimitive(); i++) {
            if (Array.get(row, i) != null) {
                open.add(Array.get(row, i));
            }
        }
    }

    static void intoFields(Object o, List<Object> open) throws IllegalAccessException {
        for (Field f : o.getClass().getDeclaredFields()) {
            if (Modifier.isStatic(f.getModifiers())) {
                continue;
            }
            elements++;
            f.setAccessible(true);
            if (!f.getType().isPrimitive() && f.get(o) != null) {
                open.add(f.get(o));
            }
        }
    }

    // ---- what calls make

    static final int[] LAW = numbers("turn 3;goes 9;slip 2");
    static final int[] WAY = numbers("kind 0 9 sleepy 5; ;");
    static final int[] BOOK = numbers("text 0 9;text 1 8; ;");

    static int[] numbers(String text) {
        int[] n = new int[5];
        for (int j = 0; j < 20; j++) {
            n[j / 4] = n[j / 4] << 8 | text.charAt(j);
        }
        return n;
    }

    static void feed(int[] n) {
        seen += x.feed(n[0], n[1], n[2], n[3], n[4]);
    }

    static void tell() {
        feed(LAW);
        seen += x.law(20);
        feed(LAW);
        seen += x.law(14);
        feed(WAY);
        seen += x.way(0, 18);
        for (int b = 0; b < 6; b++) {
            feed(BOOK);
            seen += x.book(b, 18);
            seen += x.reader(b, 0, 0, 9) + x.reader(b, 0, 9, 0) + x.reader(b, 0, 3, 4) + x.gone(b);
            seen += x.drawn(b, b);
        }
        seen += x.fault() + x.blank(9, 20) + x.blank(0, 0) + x.turn(0) + x.turn(1);
        seen += x.read(0, 0, 60) ? 1 : 0;
    }

    static void ask() {
        for (int what = 0; what < 3; what++) {
            seen += x.count(what) + x.about(0, what) + x.leaf(0, 1, what) + x.dirt(0, 1, what) + x.sleepy(0, what);
            seen += x.bounds(0, 1, 2 * what) + x.order(0, what) + x.town(what) + x.turnings(0, 0, what);
        }
        seen += x.light(0, 0) + x.humps(0, 2) + x.hump(0, 2, 1) + x.fitted(0, 0, 1) + x.years(0) + x.whose(0);
        seen += x.falls(0, NONE) + x.alike(0, 1) + x.nearest(0) + x.sure(0, 0, 1) + x.before(0, 1, 50, 1);
        seen += x.told(0, 0, 100, 7) + x.next(0) + x.clear();
        x.image();
        seen += x.restore() ? 1 : 0;
    }

    static long made(ThreadMXBean thread) {
        long before = thread.getThreadAllocatedBytes(Thread.currentThread().getId());
        tell();
        ask();
        return thread.getThreadAllocatedBytes(Thread.currentThread().getId()) - before;
    }

    public static void main(String[] args) throws IllegalAccessException {
        where = "room";
        fresh();
        measure(x);
        int objectsAtFirst = objects;
        int elementsAtFirst = elements;
        due("a new object has " + objects + " objects, too many", objects <= OBJECTS, true);
        due("a new object has " + elements + " elements, too many", elements <= ELEMENTS, true);
        ThreadMXBean thread = (ThreadMXBean) ManagementFactory.getThreadMXBean();
        // The machine itself makes things the first time that a line is run, the measuring too.
        long least = Long.MAX_VALUE;
        for (int i = 0; i < 5; i++) {
            fresh();
            least = Math.min(least, made(thread));
        }
        due("bytes that calls have made", least, 0);
        measure(x);
        due("objects after calls", objects, objectsAtFirst);
        due("elements after calls", elements, elementsAtFirst);
        finish("a ThumbBook holds " + objects + " objects, " + elements + " elements, and calls make no more");
    }
}
