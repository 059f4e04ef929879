import java.io.PrintWriter;
import java.io.StringWriter;
import java.lang.reflect.Constructor;
import java.lang.reflect.Field;
import java.lang.reflect.Method;
import java.lang.reflect.Modifier;
import java.nio.charset.StandardCharsets;
import java.nio.file.Files;
import java.nio.file.Path;
import java.util.ArrayList;
import java.util.List;
import java.util.Map;
import java.util.Set;
import java.util.TreeMap;
import java.util.TreeSet;
import java.util.regex.Matcher;
import java.util.regex.Pattern;
import java.util.spi.ToolProvider;

/** The face of the document, and the rules of LANGUAGE.md as far as the source and the class show them. */
public final class LanguageTest {
    private static final String[] FACE = {
        "boolean size(int,int)", "boolean tell(int,int,int)", "int dig(int,int)", "boolean soil(int,int,int,int)",
        "boolean quake(int)", "boolean anchor(int,int,int,int)", "int feed(int,int,int,int,int)", "boolean end(int)",
        "int text()", "int fault(int)", "int circle(int,int,int,boolean)", "int point(int,int)", "int points(boolean)",
        "int worst(int,boolean)", "int undo()", "int column(int,int)", "int layer(int,int)", "int anchored(int,int)",
        "long slice(int,int)", "long rubs(int,int)", "int stands(int)", "int factor()", "long sum(int)", "int dry()",
        "int bears(int)", "int needs(int)", "int pull(int)", "int tried(int,int,int,boolean)",
        "int boxes(int,int,int,int,boolean,int)", "int tables(int,boolean,int)", "int dug(int,int,int,int,int,boolean)",
        "boolean mirror()", "int berm(int,int,int)", "int shape(int)", "long thrust(int,int)", "int crest(int)",
        "int deep(int,int,int,int,int,boolean)", "int scan(int,int,int,int,boolean,int,int)", "int state(int)",
        "int chance(int,int,int)", "int report()", "int sign(int)", "boolean image(boolean)", "int look(int)",
    };
    private static int wrong;

    private static void wrong(String what) {
        wrong++;
        System.out.println(what);
    }

    private static String told(Method m) {
        StringBuilder b = new StringBuilder(m.getReturnType().getSimpleName() + " " + m.getName() + "(");
        for (Class<?> c : m.getParameterTypes()) {
            b.append(b.charAt(b.length() - 1) == '(' ? "" : ",").append(c.getSimpleName());
        }
        return b.append(')').toString();
    }

    private static void face() {
        Class<?> c = SlopeJudge.class;
        if (!Modifier.isPublic(c.getModifiers()) || !Modifier.isFinal(c.getModifiers())) {
            wrong("the class is public and final");
        }
        Set<String> due = new TreeSet<>(Set.of(FACE));
        Set<String> names = new TreeSet<>();
        for (String f : FACE) {
            names.add(f.replaceAll("^\\w+ |\\(.*", ""));
        }
        for (Method m : c.getDeclaredMethods()) {
            if (m.isSynthetic()) {
                continue;
            }
            if (Modifier.isPublic(m.getModifiers()) ? !due.remove(told(m)) : !Modifier.isPrivate(m.getModifiers())) {
                wrong("not of the face: " + told(m));
            }
            if (Modifier.isPrivate(m.getModifiers()) && names.contains(m.getName())) {
                wrong("a private method with a public name: " + m.getName());
            }
        }
        if (!due.isEmpty()) {
            wrong("missing: " + due);
        }
        for (Field f : c.getDeclaredFields()) {
            if (!Modifier.isPrivate(f.getModifiers()) && !f.getName().equals("NONE")) {
                wrong("not of the face: " + f);
            }
        }
        for (Constructor<?> k : c.getDeclaredConstructors()) {
            if (k.getParameterCount() != 0 || !Modifier.isPublic(k.getModifiers())) {
                wrong("not of the face: " + k);
            }
        }
        inside(c, names);
    }

    private static void inside(Class<?> c, Set<String> names) {
        Class<?>[] all = c.getDeclaredClasses();
        if (all.length > 11) {
            wrong("more than some twelve classes");
        }
        for (Class<?> n : all) {
            if (!Modifier.isStatic(n.getModifiers()) || Modifier.isPublic(n.getModifiers())) {
                wrong("a class inside is static and not public: " + n);
            }
            for (Method m : n.getDeclaredMethods()) {
                if (m.getParameterCount() > 7) {
                    wrong("more than seven parameters: " + m);
                }
                if (names.contains(m.getName())) {
                    wrong("a method inside with a public name: " + m);
                }
            }
            int own = 0;
            for (Field f : n.getDeclaredFields()) {
                own += Modifier.isStatic(f.getModifiers()) ? 0 : 1;
            }
            if (own > 20) {
                wrong("more than twenty fields: " + n);
            }
        }
    }

    private static void words(String source) {
        String code = source.replaceAll("(?s)/\\*.*?\\*/", "").replaceAll("//[^\n]*", "").replaceAll("\"[^\"]*\"", "\"\"");
        String[] banned = {"\\bthrow\\b", "\\btry\\b", "\\bcatch\\b", "\\bsynchronized\\b", "\\bassert\\b", "->", "::",
            "Exact\\b", "\\bfloat\\b", "\\bdouble\\b", "\\bprotected\\b", "\\bpackage\\b", "System\\.(?!arraycopy)",
            "\\bObject\\b", "\\bwhile \\(true\\)", "for \\(;", "\\bstatic \\{", "Math\\.(?!min|max|floorDiv)"};
        for (String b : banned) {
            Matcher m = Pattern.compile(b).matcher(code);
            if (m.find()) {
                wrong("outside LANGUAGE.md: " + b);
            }
        }
        Matcher imports = Pattern.compile("import ([^;]+);").matcher(code);
        while (imports.find()) {
            if (!imports.group(1).equals("java.util.Arrays")) {
                wrong("outside LANGUAGE.md: import " + imports.group(1));
            }
        }
        for (char letter : source.toCharArray()) {
            if (letter > 127) {
                wrong("a sign beyond 127: " + (int) letter);
            }
        }
    }

    private static void lengths(String source) {
        String[] lines = source.split("\n");
        int begin = -1;
        for (int i = 0; i < lines.length; i++) {
            if (lines[i].matches("\\s+(public|private) [^;=]*\\) \\{") || lines[i].matches("\\s+\\|\\| .*\\) \\{")) {
                begin = i;
            }
            if (begin >= 0 && lines[i].matches(" {4}( {4})?\\}") && i - begin > 60) {
                wrong("longer than some sixty lines: " + lines[begin].trim());
            }
            if (lines[i].length() > 130) {
                wrong("a long line: " + (i + 1));
            }
        }
    }

    /** The classes taken apart, by the tool that stands in the Java machine itself. */
    private static String takenApart() {
        List<String> args = new ArrayList<>(List.of("-c", "-p", "-cp", System.getProperty("java.class.path"), "SlopeJudge"));
        for (Class<?> c : SlopeJudge.class.getDeclaredClasses()) {
            args.add(c.getName());
        }
        StringWriter out = new StringWriter();
        PrintWriter to = new PrintWriter(out);
        ToolProvider javap = ToolProvider.findFirst("javap").orElse(null);
        if (javap == null || javap.run(to, to, args.toArray(new String[0])) != 0) {
            wrong("the class can't be taken apart");
        }
        return out.toString();
    }

    /** Which methods of the class each calls; what makes an object outside a constructor is told at once. */
    private static Map<String, Set<String>> callsOf(String code) {
        Map<String, Set<String>> calls = new TreeMap<>();
        Pattern head = Pattern.compile("  \\S.*?([\\w$]+)\\((.*)\\);");
        Pattern invoke = Pattern.compile(".*\\binvoke\\w+ .*// Method ([\\w$]+\\.)?\"?([\\w$<>]+)\"?:.*");
        String in = "";
        String method = "";
        for (String line : code.split("\n")) {
            Matcher type = Pattern.compile("\\S.*\\bclass ([\\w$]+) .*\\{").matcher(line);
            Matcher h = head.matcher(line);
            Matcher call = invoke.matcher(line);
            if (type.matches()) {
                in = type.group(1);
            } else if (h.matches()) {
                method = in + "." + (h.group(1).equals(in) ? "<init>" : h.group(1));
                calls.put(method, new TreeSet<>());
            } else if (call.matches()) {
                String owner = call.group(1) == null ? in + "." : call.group(1);
                calls.get(method).add(owner + call.group(2));
            } else if (line.matches(".*: (new|newarray|anewarray|multianewarray) .*") && !method.endsWith("<init>")
                    && !method.equals("SlopeJudge.tableOf")) {
                wrong("an object is made outside a constructor: " + method);
            }
        }
        return calls;
    }

    /** How many methods stand open at most, this one too; library methods are not counted. */
    private static int depth(Map<String, Set<String>> calls, String method, Set<String> open) {
        if (!calls.containsKey(method)) {
            return 0;
        }
        if (!open.add(method)) {
            wrong("a method calls itself: " + method);
            return 0;
        }
        int most = 0;
        for (String next : calls.get(method)) {
            most = Math.max(most, depth(calls, next, open));
        }
        open.remove(method);
        return most + 1;
    }

    private static void depths() {
        Map<String, Set<String>> calls = callsOf(takenApart());
        int most = 0;
        for (String method : calls.keySet()) {
            int d = depth(calls, method, new TreeSet<>());
            most = Math.max(most, d);
            if (d > 8) {
                wrong("calls go " + d + " deep: " + method);
            }
        }
        if (calls.size() < FACE.length || most < 2) {
            wrong("no calls were seen");
        }
        System.out.println(calls.size() + " methods, calls at most " + most + " deep");
    }

    public static void main(String[] args) throws Exception {
        face();
        depths();
        String source = new String(Files.readAllBytes(Path.of("src/main/java/SlopeJudge.java")), StandardCharsets.ISO_8859_1);
        words(source);
        lengths(source);
        System.out.println("the face and the language: " + wrong + " wrong");
        if (wrong != 0) {
            System.exit(1);
        }
    }
}
