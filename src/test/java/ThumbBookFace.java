import java.io.IOException;
import java.lang.reflect.Constructor;
import java.lang.reflect.Field;
import java.lang.reflect.Method;
import java.lang.reflect.Modifier;
import java.nio.file.Files;
import java.nio.file.Path;
import java.util.ArrayList;
import java.util.List;
import java.util.Set;
import java.util.TreeSet;
import java.util.regex.Matcher;
import java.util.regex.Pattern;

/** The public face is the document's and no more, and the file keeps to what LANGUAGE.md leaves of Java. */
public final class ThumbBookFace {
    static int wrong;

    static void check(String what, boolean is) {
        if (!is) {
            wrong++;
            System.out.println("wrong: " + what);
        }
    }

    static final String[] FACE = {
        "int feed(int, int, int, int, int)",
        "int book(int, int) throws NoSuchElementException, IllegalArgumentException",
        "int law(int) throws IllegalArgumentException",
        "int way(int, int) throws NoSuchElementException, IllegalArgumentException",
        "int fault()",
        "int count(int) throws NoSuchElementException",
        "int about(int, int) throws NoSuchElementException",
        "int leaf(int, int, int) throws NoSuchElementException",
        "int turnings(int, int, int) throws NoSuchElementException",
        "int reader(int, int, int, int) throws NoSuchElementException",
        "int gone(int) throws NoSuchElementException",
        "int dirt(int, int, int) throws NoSuchElementException",
        "int drawn(int, int) throws NoSuchElementException",
        "boolean read(int, int, int) throws NoSuchElementException",
        "int bounds(int, int, int) throws NoSuchElementException",
        "int light(int, int) throws NoSuchElementException",
        "int sleepy(int, int) throws NoSuchElementException",
        "long humps(int, int) throws NoSuchElementException",
        "int hump(int, int, int) throws NoSuchElementException",
        "int fitted(int, int, int) throws NoSuchElementException",
        "int years(int) throws NoSuchElementException",
        "int whose(int) throws NoSuchElementException",
        "int order(int, int) throws NoSuchElementException",
        "int falls(int, int) throws NoSuchElementException",
        "int blank(int, int)",
        "int clear()",
        "int turn(int) throws NoSuchElementException",
        "int town(int) throws NoSuchElementException",
        "int alike(int, int) throws NoSuchElementException",
        "int nearest(int) throws NoSuchElementException",
        "int sure(int, int, int) throws NoSuchElementException",
        "int before(int, int, int, int) throws NoSuchElementException, IllegalArgumentException",
        "int told(int, int, int, int) throws NoSuchElementException, IllegalArgumentException",
        "int next(int) throws NoSuchElementException",
        "void image()",
        "boolean restore()"};

    static String signature(Method m) {
        List<String> types = new ArrayList<>();
        for (Class<?> type : m.getParameterTypes()) {
            types.add(type.getSimpleName());
        }
        List<String> thrown = new ArrayList<>();
        for (Class<?> type : m.getExceptionTypes()) {
            thrown.add(type.getSimpleName());
        }
        String behind = thrown.isEmpty() ? "" : " throws " + String.join(", ", thrown);
        return m.getReturnType().getSimpleName() + " " + m.getName() + "(" + String.join(", ", types) + ")" + behind;
    }

    static void face() {
        Class<?> c = ThumbBook.class;
        check("public and final", Modifier.isPublic(c.getModifiers()) && Modifier.isFinal(c.getModifiers()));
        Set<String> want = new TreeSet<>(List.of(FACE));
        Set<String> names = new TreeSet<>();
        Set<String> got = new TreeSet<>();
        for (Method m : c.getDeclaredMethods()) {
            if (Modifier.isPublic(m.getModifiers())) {
                got.add(signature(m));
                names.add(m.getName());
                check(m.getName() + " is no static one", !Modifier.isStatic(m.getModifiers()));
            }
        }
        check("the methods: " + got, got.equals(want));
        for (Method m : c.getDeclaredMethods()) {
            boolean isPrivate = Modifier.isPrivate(m.getModifiers());
            check(m.getName() + " is public or private", isPrivate || Modifier.isPublic(m.getModifiers()));
            check(m.getName() + " bears a public name", !isPrivate || !names.contains(m.getName()));
            check(m.getName() + " takes seven at most", m.getParameterCount() <= 7);
        }
        for (Constructor<?> k : c.getDeclaredConstructors()) {
            check("one public constructor", Modifier.isPublic(k.getModifiers()) && k.getParameterCount() == 0);
        }
        for (Field f : c.getDeclaredFields()) {
            boolean isNone = f.getName().equals("NONE");
            check(f.getName() + " is private", isNone || Modifier.isPrivate(f.getModifiers()));
            check("NONE is a public constant", !isNone || Modifier.isPublic(f.getModifiers()) && f.getType() == int.class);
            check(f.getName() + " is final if static", !Modifier.isStatic(f.getModifiers()) || Modifier.isFinal(f.getModifiers()));
        }
        for (Class<?> inner : c.getDeclaredClasses()) {
            check(inner.getName() + " is static", Modifier.isStatic(inner.getModifiers()));
            for (Method m : inner.getDeclaredMethods()) {
                check(inner.getName() + "." + m.getName() + " bears a public name", !names.contains(m.getName()));
            }
        }
        check("some twelve classes", c.getDeclaredClasses().length <= 11);
    }

    static void language(String source) {
        String code = source.replaceAll("(?s)/\\*.*?\\*/", "").replaceAll("//[^\n]*", "");
        String[] none = {"\\btry\\b", "\\bcatch\\b", "\\bfinally\\b", "->", "::", "Exact\\b", "\\bsynchronized\\b",
            "\\bassert\\b", "\\bstatic \\{", "\\bprotected\\b", "\\bpackage\\b", "\\bdouble\\b", "\\bfloat\\b",
            "\" \\+", "\\+ \"", "System\\.(?!arraycopy)", "\\bRandom\\b", "hashCode", "toString", "\\bRuntimeException\\b"};
        for (String word : none) {
            check("the file has " + word, !Pattern.compile(word).matcher(code).find());
        }
        Matcher imports = Pattern.compile("import ([^;]+);").matcher(code);
        while (imports.find()) {
            String name = imports.group(1);
            check("import " + name, Set.of("java.util.Arrays", "java.util.NoSuchElementException").contains(name));
        }
        Matcher math = Pattern.compile("\\bMath\\.(\\w+)").matcher(code);
        while (math.find()) {
            check("Math." + math.group(1), Set.of("max", "min", "abs", "floorDiv", "floorMod").contains(math.group(1)));
        }
        check("no new array outside a field", !Pattern.compile("(?m)^ {12,}.*new int\\[").matcher(code).find());
        for (int i = 0; i < source.length(); i++) {
            check("a sign above 126 in the file", source.charAt(i) < 127);
        }
    }

    public static void main(String[] args) throws IOException {
        face();
        language(Files.readString(Path.of("src/main/java/ThumbBook.java")));
        System.out.println(wrong == 0 ? "the face is the document's" : wrong + " things are wrong");
        if (wrong != 0) {
            System.exit(1);
        }
    }
}
