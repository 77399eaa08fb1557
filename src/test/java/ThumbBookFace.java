import java.io.IOException;
import java.lang.reflect.Constructor;
import java.lang.reflect.Field;
import java.lang.reflect.Method;
import java.lang.reflect.Modifier;
import java.nio.file.Files;
import java.nio.file.Path;
import java.util.ArrayList;
import java.util.List;
import java.util.Set;
import java.util.TreeSet;
import java.util.regex.Matcher;
import java.util.regex.Pattern;

/** The public face is the document's and no more, and the file keeps to what LANGUAGE.md leaves of Java. */
public final class ThumbBookFace {
    static int wrong;

    static void check(String what, boolean is) {
        if (!is) {
            wrong++;
            System.out.println("wrong: " + what);
        }
    }

    static final String[] FACE = {
        "int feed(int, int, int, int, int)", "int book(int, int)", "int law(int)", "int way(int, int)", "int fault()",
        "int count(int)", "int about(int, int)", "int leaf(int, int, int)", "int turnings(int, int, int)",
        "int reader(int, int, int, int)", "int gone(int)", "int dirt(int, int, int)", "int drawn(int, int)",
        "boolean read(int, int, int)", "int bounds(int, int, int)", "int light(int, int)", "int sleepy(int, int)",
        "long humps(int, int)", "int hump(int, int, int)", "int fitted(int, int, int)", "int years(int)",
        "int whose(int)", "int order(int, int)", "int falls(int, int)", "int blank(int, int)", "int clear()",
        "int turn(int)", "int town(int)", "int alike(int, int)", "int nearest(int)", "int sure(int, int, int)",
        "int before(int, int, int, int)", "int told(int, int, int, int)", "int next(int)", "void image()",
        "boolean restore()"};

    static String signature(Method m) {
        List<String> types = new ArrayList<>();
        for (Class<?> type : m.getParameterTypes()) {
            types.add(type.getSimpleName());
        }
        return m.getReturnType().getSimpleName() + " " + m.getName() + "(" + String.join(", ", types) + ")";
    }

    static void face() {
        Class<?> c = ThumbBook.class;
        check("public and final", Modifier.isPublic(c.getModifiers()) && Modifier.isFinal(c.getModifiers()));
        Set<String> want = new TreeSet<>(List.of(FACE));
        Set<String> names = new TreeSet<>();
        Set<String> got = new TreeSet<>();
        for (Method m : c.getDeclaredMethods()) {
            if (Modifier.isPublic(m.getModifiers())) {
                got.add(signature(m));
                names.add(m.getName());
                check(m.getName() + " is no static one", !Modifier.isStatic(m.getModifiers()));
            }
        }
        check("the methods: " + got, got.equals(want));
        for (Method m : c.getDeclaredMethods()) {
            boolean isPrivate = Modifier.isPrivate(m.getModifiers());
            check(m.getName() + " is public or private", isPrivate || Modifier.isPublic(m.getModifiers()));
            check(m.getName() + " bears a public name", !isPrivate || !names.contains(m.getName()));
            check(m.getName() + " takes seven at most", m.getParameterCount() <= 7);
        }
        for (Constructor<?> k : c.getDeclaredConstructors()) {
            check("one public constructor", Modifier.isPublic(k.getModifiers()) && k.getParameterCount() == 0);
        }
        for (Field f : c.getDeclaredFields()) {
            boolean isNone = f.getName().equals("NONE");
            check(f.getName() + " is private", isNone || Modifier.isPrivate(f.getModifiers()));
            check(f.getName() + " is final if static", !Modifier.isStatic(f.getModifiers()) || Modifier.isFinal(f.getModifiers()));
        }
        for (Class<?> inner : c.getDeclaredClasses()) {
            check(inner.getName() + " is static", Modifier.isStatic(inner.getModifiers()));
            for (Method m : inner.getDeclaredMethods()) {
                check(inner.getName() + "." + m.getName() + " bears a public name", !names.contains(m.getName()));
            }
        }
        check("some twelve classes", c.getDeclaredClasses().length <= 11);
    }

    static void language(String source) {
        String code = source.replaceAll("(?s)/\\*.*?\\*/", "").replaceAll("//[^\n]*", "");
        String[] none = {"\\btry\\b", "\\bcatch\\b", "\\bfinally\\b", "->", "::", "Exact\\b", "\\bsynchronized\\b",
            "\\bassert\\b", "\\bstatic \\{", "\\bprotected\\b", "\\bpackage\\b", "\\bdouble\\b", "\\bfloat\\b",
            "\" \\+", "\\+ \"", "System\\.(?!arraycopy)", "\\bRandom\\b", "hashCode", "toString", "\\bRuntimeException\\b"};
        for (String word : none) {
            check("the file has " + word, !Pattern.compile(word).matcher(code).find());
        }
        Matcher imports = Pattern.compile("import ([^;]+);").matcher(code);
        while (imports.find()) {
            String name = imports.group(1);
            check("import " + name, Set.of("java.util.Arrays", "java.util.NoSuchElementException").contains(name));
        }
        Matcher math = Pattern.compile("\\bMath\\.(\\w+)").matcher(code);
        while (math.find()) {
            check("Math." + math.group(1), Set.of("max", "min", "abs", "floorDiv", "floorMod").contains(math.group(1)));
        }
        check("no new array outside a field", !Pattern.compile("(?m)^ {12,}.*new int\\[").matcher(code).find());
        for (int i = 0; i < source.length(); i++) {
            check("a sign above 126 in the file", source.charAt(i) < 127);
        }
    }

    public static void main(String[] args) throws IOException {
        face();
        language(Files.readString(Path.of("src/main/java/ThumbBook.java")));
        System.out.println(wrong == 0 ? "the face is the document's" : wrong + " things are wrong");
        if (wrong != 0) {
            System.exit(1);
        }
    }
}
