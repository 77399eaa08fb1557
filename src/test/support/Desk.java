import java.io.IOException;
import java.lang.reflect.InvocationTargetException;
import java.lang.reflect.Method;
import java.nio.file.Files;
import java.nio.file.Path;
import java.util.Arrays;
import java.util.Comparator;
import java.util.NoSuchElementException;
import java.util.function.LongSupplier;

/** What the tests by hand share: a ThumbBook, texts for its tape, and answers held against those that are due. */
class Desk {
    static final int NONE = -1;
    static final int LEAST_INT = Integer.MIN_VALUE;
    static final int GREATEST_INT = Integer.MAX_VALUE;
    static int wrong;
    static String where = "";
    static ThumbBook x;

    // ---- answers

    static void due(String what, long got, long want) {
        if (got != want) {
            fail(what + ": answered " + got + ", due is " + want);
        }
    }

    static void due(String what, boolean got, boolean want) {
        due(what, got ? 1 : 0, want ? 1 : 0);
    }

    static void fail(String what) {
        wrong++;
        System.out.println(where + ", " + what);
    }

    static String thrown(LongSupplier call) {
        try {
            call.getAsLong();
            return "nothing";
        } catch (NoSuchElementException e) {
            return "no such";
        } catch (IllegalArgumentException e) {
            return "illegal";
        }
    }

    static void noSuch(String what, LongSupplier call) {
        due(what + " throws NoSuchElementException", thrown(call).equals("no such"), true);
    }

    static void illegal(String what, LongSupplier call) {
        due(what + " throws IllegalArgumentException", thrown(call).equals("illegal"), true);
    }

    static void fresh() {
        x = new ThumbBook();
    }

    // ---- texts

    /** Behind the text stands what is no TOKEN, up to twenty bytes, so that a byte too many would be seen. */
    static void tape(String text) {
        StringBuilder s = new StringBuilder(text);
        while (s.length() % 20 != 0) {
            s.append('?');
        }
        for (int i = 0; i < s.length(); i += 20) {
            int[] n = new int[5];
            for (int j = 0; j < 20; j++) {
                n[j / 4] = n[j / 4] << 8 | s.charAt(i + j);
            }
            x.feed(n[0], n[1], n[2], n[3], n[4]);
        }
    }

    static int book(int book, String text) {
        tape(text);
        return x.book(book, text.length());
    }

    static int law(String text) {
        tape(text);
        return x.law(text.length());
    }

    static int way(int way, String text) {
        tape(text);
        return x.way(way, text.length());
    }

    /** A text of one of the three languages, for BOOK 0 or WAY 0. */
    static int write(String language, String text) {
        switch (language) {
            case "book":
                return book(0, text);
            case "law":
                return law(text);
            default:
                return way(0, text);
        }
    }

    static void faulty(String language, String text, int fault, int place) {
        due(language + " '" + text + "'", write(language, text), fault);
        due("fault() of " + language + " '" + text + "'", x.fault(), place);
    }

    static void bookFault(String text, int fault, int place) {
        faulty("book", text, fault, place);
    }

    static void lawFault(String text, int fault, int place) {
        faulty("law", text, fault, place);
    }

    static void wayFault(String text, int fault, int place) {
        faulty("way", text, fault, place);
    }

    static String blanks(int n) {
        return " ".repeat(n);
    }

    // ---- books that are read

    /** A BOOK whose LEAVES, BORN of 40, have these TURNS exactly (no SLIP, nothing through, TURN 1). */
    static void exact(int book, String text, int... turns) {
        law("slip 0;goes 0;turn 1;");
        book(book, text);
        readAll(book, 40, turns);
    }

    /** One LEAF of each of so many KINDS, 0 on. */
    static String kindsOfOneLeaf(int kinds) {
        StringBuilder s = new StringBuilder();
        for (int kind = 0; kind < kinds; kind++) {
            s.append("text ").append(kind).append(" 1;");
        }
        return s.toString();
    }

    /** By TURN 3 and a WAY 0 of 99 for KIND 0 its LEAVES have 333,333 TURNINGS, so 999,999 of OWN dirt. */
    static void darkest(int book, String text) {
        book(book, text);
        for (int i = 0; i < 6; i++) {
            x.reader(book, 0, 0, 500);
        }
        x.reader(book, 0, 0, 360);
    }

    static void readAll(int book, int born, int... gained) {
        for (int leaf = 0; leaf < gained.length; leaf++) {
            x.read(book, leaf, born + gained[leaf]);
        }
    }

    // ---- running

    /** Each method that says a sentence of the document, on a new object. */
    static void runAll(Class<?> tests) {
        Method[] all = tests.getDeclaredMethods();
        Arrays.sort(all, Comparator.comparing(Method::getName));
        int ran = 0;
        for (Method test : all) {
            Says says = test.getAnnotation(Says.class);
            if (says != null) {
                ran++;
                run(test, says.value());
            }
        }
        noteLostWords(all);
        finish("all " + ran + " sentences hold");
    }

    private static void run(Method test, String[] words) {
        where = test.getName() + " (\"" + String.join("\", \"", words) + "\")";
        fresh();
        try {
            test.invoke(null);
        } catch (InvocationTargetException e) {
            fail("threw " + e.getCause());
        } catch (IllegalAccessException e) {
            fail("cannot be called");
        }
    }

    /** Only said, not a failure: the document may be written anew while the sentences still hold. */
    private static void noteLostWords(Method[] all) {
        String document;
        try {
            document = folded(Files.readString(Path.of("../shared/DOC.md")));
        } catch (IOException e) {
            System.out.println("note: ../shared/DOC.md was not found");
            return;
        }
        for (Method test : all) {
            Says says = test.getAnnotation(Says.class);
            for (String words : says == null ? new String[0] : says.value()) {
                if (!document.contains(folded(words))) {
                    System.out.println("note: the document does not say \"" + words + "\"");
                }
            }
        }
    }

    private static String folded(String text) {
        return text.replaceAll("\\s+", " ");
    }

    static void finish(String good) {
        System.out.println(wrong == 0 ? good : wrong + " answers are not as due");
        if (wrong != 0) {
            System.exit(1);
        }
    }
}
