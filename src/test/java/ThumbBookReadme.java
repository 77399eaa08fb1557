import java.io.IOException;
import java.lang.reflect.Method;
import java.net.URL;
import java.net.URLClassLoader;
import java.nio.file.Files;
import java.nio.file.Path;
import java.util.regex.Matcher;
import java.util.regex.Pattern;
import javax.tools.ToolProvider;

/** The calls that README.md shows answer what stands behind them there. */
public final class ThumbBookReadme {
    private static final Pattern BLOCK = Pattern.compile("```java\n(.*?)```", Pattern.DOTALL);
    private static final Pattern CALL = Pattern.compile("(x\\..*\\));\\s*// (-?[0-9]+|true|false)(:.*)?");

    static int wrong;
    static int calls;

    /** Called by the class that is made of the page. */
    public static void due(String call, Object got, String want) {
        calls++;
        if (!String.valueOf(got).equals(want)) {
            wrong++;
            System.out.println("README.md: " + call + " answered " + got + ", the page says " + want);
        }
    }

    static String shown(String page) {
        StringBuilder members = new StringBuilder();
        StringBuilder steps = new StringBuilder();
        Matcher block = BLOCK.matcher(page);
        while (block.find()) {
            if (block.group(1).startsWith("static ")) {
                members.append(block.group(1));
            } else {
                block.group(1).lines().forEach(line -> steps.append(step(line)).append('\n'));
            }
        }
        return "public class Shown {\n" + members + "public static void run() {\n" + steps + "}\n}\n";
    }

    static String step(String line) {
        Matcher call = CALL.matcher(line);
        if (!call.matches()) {
            return line;
        }
        String name = call.group(1).replace("\"", "'");
        return "ThumbBookReadme.due(\"" + name + "\", " + call.group(1) + ", \"" + call.group(2) + "\");";
    }

    static void run(Path room, String source) throws Exception {
        Path file = room.resolve("Shown.java");
        Files.writeString(file, source);
        String classes = System.getProperty("java.class.path");
        int bad = ToolProvider.getSystemJavaCompiler().run(null, null, null, "-cp", classes, "-d", room.toString(), file.toString());
        if (bad != 0) {
            wrong++;
            System.out.println("README.md: its calls do not compile");
            return;
        }
        try (URLClassLoader loader = new URLClassLoader(new URL[] {room.toUri().toURL()})) {
            Method run = loader.loadClass("Shown").getMethod("run");
            run.invoke(null);
        }
    }

    static void clear(Path room) throws IOException {
        Files.deleteIfExists(room.resolve("Shown.java"));
        Files.deleteIfExists(room.resolve("Shown.class"));
        Files.deleteIfExists(room);
    }

    public static void main(String[] args) throws Exception {
        Path room = Files.createTempDirectory("readme");
        try {
            run(room, shown(Files.readString(Path.of("README.md"))));
        } finally {
            clear(room);
        }
        if (calls < 40) {
            wrong++;
            System.out.println("README.md: only " + calls + " calls with answers were found");
        }
        System.out.println(wrong == 0 ? "all " + calls + " calls of README.md answer as it says" : wrong + " are wrong");
        if (wrong != 0) {
            System.exit(1);
        }
    }
}
