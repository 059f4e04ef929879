import java.io.IOException;
import java.net.URL;
import java.net.URLClassLoader;
import java.nio.charset.StandardCharsets;
import java.nio.file.Files;
import java.nio.file.Path;
import java.util.regex.Matcher;
import java.util.regex.Pattern;
import javax.tools.JavaCompiler;
import javax.tools.ToolProvider;

/** That what README.md shows of the class is so: its code is compiled as it stands, each answer held against it. */
public final class ReadmeTest {
    private static final Pattern BLOCK = Pattern.compile("```java\n(.*?)```", Pattern.DOTALL);
    /** A call, and behind -> what it answers, up to a colon. */
    private static final Pattern ANSWER = Pattern.compile("(\\S.*?);\\s*// -> ([^:]+?)(?:: .*)?");
    private static int answers;
    private static int wrong;

    private ReadmeTest() {
    }

    /** Called by the code that is made of README.md. */
    public static void due(String call, Object got, Object want) {
        answers++;
        if (!plain(got).equals(plain(want))) {
            wrong++;
            System.out.println("README.md: " + call + " answered " + got + ", it says " + want);
        }
    }

    private static String plain(Object v) {
        return v instanceof Character c ? String.valueOf((int) c) : String.valueOf(v);
    }

    private static String checked(String line) {
        Matcher m = ANSWER.matcher(line);
        if (!m.matches()) {
            return line;
        }
        String call = m.group(1);
        String want = m.group(2).replace("NONE", "SlopeJudge.NONE");
        return "ReadmeTest.due(\"" + call.replace("\"", "\\\"") + "\", " + call + ", " + want + ");";
    }

    private static String madeOf(String readme) {
        StringBuilder members = new StringBuilder();
        StringBuilder calls = new StringBuilder();
        Matcher m = BLOCK.matcher(readme);
        while (m.find()) {
            boolean member = m.group(1).startsWith("static ");
            for (String line : m.group(1).split("\n")) {
                (member ? members : calls).append(member ? line : checked(line)).append('\n');
            }
        }
        return "public final class Shown {\n" + members + "public static void run() {\n" + calls + "}\n}\n";
    }

    private static void runShown(Path room, String source) throws Exception {
        Path file = room.resolve("Shown.java");
        Files.write(file, source.getBytes(StandardCharsets.UTF_8));
        JavaCompiler compiler = ToolProvider.getSystemJavaCompiler();
        int failed = compiler.run(null, null, null, "-d", room.toString(),
                "-cp", System.getProperty("java.class.path"), file.toString());
        if (failed != 0) {
            wrong++;
            System.out.println("README.md: its code can't be compiled");
            return;
        }
        try (URLClassLoader loader = new URLClassLoader(new URL[] {room.toUri().toURL()})) {
            loader.loadClass("Shown").getMethod("run").invoke(null);
        }
    }

    private static void clear(Path room) throws IOException {
        try (var files = Files.newDirectoryStream(room)) {
            for (Path file : files) {
                Files.delete(file);
            }
        }
        Files.delete(room);
    }

    public static void main(String[] args) throws Exception {
        String readme = new String(Files.readAllBytes(Path.of("README.md")), StandardCharsets.UTF_8);
        Path room = Files.createTempDirectory("readme");
        try {
            runShown(room, madeOf(readme));
        } finally {
            clear(room);
        }
        System.out.println("README.md: " + answers + " answers shown, " + wrong + " wrong");
        if (wrong != 0 || answers == 0) {
            System.exit(1);
        }
    }
}
