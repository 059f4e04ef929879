import java.io.IOException;
import java.nio.charset.StandardCharsets;
import java.nio.file.Files;
import java.nio.file.Path;
import java.util.ArrayList;
import java.util.List;
import java.util.regex.Matcher;
import java.util.regex.Pattern;

/** That no sentence of the terms and the promises is left without a test of its edges: each stands word for word in one. */
public final class SentencesTest {
    private static final Pattern QUOTE = Pattern.compile("says\\((?:(\\d+), )?\"((?:[^\"\\\\]|\\\\.)*)\"\\)");
    /** What a sentence has: more letters than what only leads from one to the next. */
    private static final int LETTERS = 12;

    private SentencesTest() {
    }

    private static String read(Path path) throws IOException {
        return new String(Files.readAllBytes(path), StandardCharsets.UTF_8).replaceAll("\\s+", " ");
    }

    private static List<Path> tests() throws IOException {
        List<Path> all = new ArrayList<>();
        try (var files = Files.newDirectoryStream(Path.of("src/test/java"), "*EdgesTest.java")) {
            files.forEach(all::add);
        }
        return all;
    }

    /** Strikes a quote out of its section, letter by letter, so that places stay. */
    private static void strike(StringBuilder document, String section, String quote) {
        int from = document.indexOf(section);
        int at = from < 0 ? -1 : document.indexOf(quote, from);
        for (int i = at; at >= 0 && i < at + quote.length(); i++) {
            document.setCharAt(i, '|');
        }
    }

    public static void main(String[] args) throws IOException {
        String document = read(Path.of("../shared/DOC.md"));
        StringBuilder left = new StringBuilder(document);
        int quotes = 0;
        for (Path test : tests()) {
            Matcher m = QUOTE.matcher(read(test));
            while (m.find()) {
                String section = m.group(1) == null || m.group(1).equals("0") ? "## Terms " : "## Promise " + m.group(1) + ": ";
                strike(left, section, m.group(2).replace("\\\"", "\""));
                quotes++;
            }
        }
        String rest = left.substring(document.indexOf("## Terms "), document.indexOf("## Not promised"));
        // a promise's heading and its head are no sentences
        rest = rest.replaceAll("## Terms |## Promise \\d+: [A-Za-z ]+ `[^`]*`:|```(text)?", "|");
        int wrong = 0;
        for (String part : rest.split("\\|+")) {
            if (part.replaceAll("[^A-Za-z]", "").length() > LETTERS) {
                wrong++;
                System.out.println("no test quotes: " + part.trim());
            }
        }
        System.out.println(quotes + " quotes, " + wrong + " sentences without a test");
        if (wrong != 0 || quotes == 0) {
            System.exit(1);
        }
    }
}
