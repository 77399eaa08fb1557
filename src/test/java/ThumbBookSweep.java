import java.lang.reflect.InvocationTargetException;
import java.lang.reflect.Method;
import java.lang.reflect.Modifier;
import java.util.Arrays;
import java.util.Comparator;
import java.util.List;
import java.util.NoSuchElementException;
import java.util.function.IntToLongFunction;

/** Every method of the face with numbers from the least int to the greatest, in several states. */
public final class ThumbBookSweep extends Desk {
    static final int[] ODD = {LEAST_INT, LEAST_INT + 1, -2, -1, 0, 1, 5, 6, 39, 40, GREATEST_INT - 1, GREATEST_INT};
    /** Five of them in a row are enough for feed(), and four for what has four numbers. */
    static final int[] FEWER_ODD = {LEAST_INT, -1, 0, 1, 6, 40, GREATEST_INT};
    static final int STATES = 4;

    // ---- states

    static void inState(int state) {
        fresh();
        if (state == 1) {
            partly();
        } else if (state == 2) {
            full();
        } else if (state == 3) {
            darkest();
        }
    }

    /** Some LEAVES read, some not, some STRANGE. */
    static void partly() {
        way(0, "kind 0 9 sleepy 7;kind 1 1;");
        book(0, "text 0 3;text 1 2 later 3;hair 7;washed 3 50;");
        x.reader(0, 0, 0, 9);
        readAll(0, 0, 200, 0, 90);
        exact(1, "text 0 1;text 1 1;", 7, 3);
    }

    /** As much of all as there may be. */
    static void full() {
        for (int b = 0; b <= 5; b++) {
            book(b, "text 0 20 born 0;text 11 20 born 200 later 500;hair 100;washed 0 1;washed 1 2;washed 2 3;washed 500 99;");
            for (int i = 0; i < 8; i++) {
                x.reader(b, i % 6, 0, 500);
            }
            way(b, "kind 0 99 sleepy 50;kind 11 99;");
            x.drawn(b, b);
        }
        for (int i = 0; i < 20; i++) {
            x.blank(999, 9999);
        }
        tape(blanks(500));
        x.image();
    }

    /** The greatest of all numbers, so that what is reckoned is as great as it may be. */
    static void darkest() {
        law("turn 50;goes 90;slip 50;");
        way(0, "kind 0 99;");
        book(0, "text 0 20;text 0 20;");
        for (int i = 0; i < 8; i++) {
            x.reader(0, 0, 0, 500);
        }
        for (int leaf = 0; leaf < 40; leaf++) {
            x.read(0, leaf, leaf % 2 == 0 ? 999999 : 0);
        }
        x.image();
    }

    // ---- nothing but what the document says is thrown

    static void call(Method method, Object[] numbers) {
        try {
            method.invoke(x, numbers);
        } catch (InvocationTargetException e) {
            Throwable thrown = e.getCause();
            boolean said = Arrays.asList(method.getExceptionTypes()).contains(thrown.getClass());
            StackTraceElement[] trace = thrown.getStackTrace();
            boolean ours = trace.length > 0 && trace[0].getClassName().startsWith("ThumbBook");
            if (!said || !ours) {
                fail(method.getName() + Arrays.toString(numbers) + " threw " + thrown);
            }
        } catch (IllegalAccessException e) {
            fail(method.getName() + " cannot be called");
        }
    }

    static void sweep(Method method, int state) {
        int many = method.getParameterCount();
        int[] odd = many > 3 ? FEWER_ODD : ODD;
        int all = 1;
        for (int i = 0; i < many; i++) {
            all *= odd.length;
        }
        for (int which = 0; which < all; which++) {
            if (which % 300 == 0) {
                inState(state);
            }
            Object[] numbers = new Object[many];
            int rest = which;
            for (int i = 0; i < many; i++) {
                numbers[i] = odd[rest % odd.length];
                rest /= odd.length;
            }
            call(method, numbers);
        }
    }

    static void sweepAll() {
        Method[] face = ThumbBook.class.getMethods();
        Arrays.sort(face, Comparator.comparing(Method::getName));
        for (Method method : face) {
            boolean ours = method.getDeclaringClass() == ThumbBook.class && Modifier.isPublic(method.getModifiers());
            for (int state = 0; ours && state < STATES; state++) {
                where = "sweep, state " + state;
                sweep(method, state);
            }
        }
    }

    // ---- no such book, as everywhere

    static List<IntToLongFunction> askedOfABook() {
        return List.of(
            b -> x.book(b, 0), b -> x.book(b, -1), b -> x.about(b, 0), b -> x.leaf(b, 0, 0), b -> x.reader(b, 0, 0, 0),
            b -> x.gone(b), b -> x.dirt(b, 0, 0), b -> x.drawn(b, 1), b -> x.read(b, 0, 50) ? 1 : 0, b -> x.bounds(b, 0, 0),
            b -> x.light(b, 0), b -> x.sleepy(b, 0), b -> x.humps(b, 1), b -> x.hump(b, 1, 0), b -> x.fitted(b, 0, NONE),
            b -> x.whose(b), b -> x.order(b, 0), b -> x.falls(b, NONE), b -> x.alike(b, 0), b -> x.alike(0, b),
            b -> x.nearest(b), b -> x.sure(b, 0, 0), b -> x.before(b, 0, 0, 0), b -> x.before(b, 0, 100, 0),
            b -> x.told(b, 0, 1, 1), b -> x.told(b, 0, 0, 1), b -> x.next(b));
    }

    static void noSuchBookEverywhere() {
        where = "no such BOOK (as everywhere)";
        List<IntToLongFunction> all = askedOfABook();
        exact(0, "text 0 1;", 5);
        for (int i = 0; i < all.size(); i++) {
            IntToLongFunction asked = all.get(i);
            for (int b : new int[] {-1, 6, LEAST_INT, GREATEST_INT}) {
                noSuch("call " + i + " of book " + b, () -> asked.applyAsLong(b));
            }
        }
        for (int i = 3; i < all.size(); i++) {
            IntToLongFunction asked = all.get(i);
            exact(0, "text 0 1;", 5);
            x.reader(0, 0, 0, 0);
            due("call " + i + " of book 0 finds it", thrown(() -> asked.applyAsLong(0)).equals("no such"), false);
            fresh();
        }
    }

    // ---- what throws changes nothing

    static long allThatMayBeSeen() {
        long seen = 7;
        for (int what = 0; what <= 8; what++) {
            seen = 31 * seen + x.count(what);
        }
        seen = 31 * seen + x.fault();
        for (int b = 0; b <= 1; b++) {
            for (int what = 0; what <= 6; what++) {
                seen = 31 * seen + x.about(b, what);
            }
            for (int leaf = 0; leaf < x.about(b, 0); leaf++) {
                seen = 31 * seen + x.dirt(b, leaf, 2);
                seen = 31 * seen + seenBounds(b, leaf);
            }
        }
        return 31 * seen + x.turnings(0, 0, 0);
    }

    static long seenBounds(int b, int leaf) {
        try {
            return 31L * x.bounds(b, leaf, 0) + x.bounds(b, leaf, 1);
        } catch (NoSuchElementException e) {
            return NONE;
        }
    }

    static void throwsChangeNothing() {
        where = "what throws changes nothing";
        partly();
        book(5, "zz");
        tape("text 0 1;");
        long ahead = allThatMayBeSeen();
        List<IntToLongFunction> all = askedOfABook();
        for (int i = 0; i < all.size(); i++) {
            IntToLongFunction asked = all.get(i);
            noSuch("call " + i, () -> asked.applyAsLong(6));
        }
        illegal("book", () -> x.book(0, 21));
        illegal("law", () -> x.law(21));
        illegal("way", () -> x.way(0, -1));
        noSuch("way", () -> x.way(6, 9));
        noSuch("reader", () -> x.reader(0, 6, 0, 0));
        noSuch("read", () -> x.read(0, 5, 1) ? 1 : 0);
        illegal("told", () -> x.told(0, 0, 0, 1));
        illegal("before", () -> x.before(0, 0, 100, 0));
        due("all that may be seen", allThatMayBeSeen(), ahead);
    }

    public static void main(String[] args) {
        sweepAll();
        fresh();
        noSuchBookEverywhere();
        fresh();
        throwsChangeNothing();
        finish("nothing is thrown but what the document says");
    }
}
