import java.io.IOException;
import java.nio.charset.StandardCharsets;
import java.nio.file.DirectoryStream;
import java.nio.file.Files;
import java.nio.file.Path;
import java.util.Arrays;
import java.util.Set;
import java.util.regex.Matcher;
import java.util.regex.Pattern;

/** All of the document's "Terms" and "Promises" is quoted by a test of the EdgesOf family. Run from the project's folder. */
public final class DocumentCoveredTest {
    private static final Path DOCUMENT = Path.of("../shared/DOC.md");
    private static final Path TESTS = Path.of("src/test/java");
    private static final String TEXT = "\"(?:[^\"\\\\]|\\\\.)*\"";
    private static final Pattern QUOTE = Pattern.compile("doc\\.says\\(\\s*(" + TEXT + "(?:\\s*\\+\\s*" + TEXT + ")*)\\s*\\)");
    /** What names no boundary by itself: headings, and words that join two quoted sentences. */
    private static final Set<String> JOINTS =
            Set.of("THE YARD", "or a letter", "on which the TALK", "how much", "text", "==== 2", "==== 3");

    public static void main(String[] args) throws IOException {
        String document = Files.readString(DOCUMENT, StandardCharsets.UTF_8).replaceAll("\\s+", " ");
        boolean[] covered = new boolean[document.length()];
        try (DirectoryStream<Path> tests = Files.newDirectoryStream(TESTS, "EdgesOf*Test.java")) {
            for (Path test : tests) {
                cover(document, covered, Files.readString(test, StandardCharsets.UTF_8));
            }
        }
        Checks checks = new Checks();
        int end = document.indexOf("## Not promised");
        for (String part : left(document, covered, document.indexOf("## Terms") + 8, end).split("\u0001+")) {
            String words = part.replaceAll("^[\\s,;:.`()]+|[\\s,;:.`()]+$", "");
            checks.due("no test quotes: " + words, words.isEmpty() || JOINTS.contains(words), true);
        }
        checks.end();
    }

    private static void cover(String document, boolean[] covered, String test) {
        Matcher says = QUOTE.matcher(test);
        while (says.find()) {
            StringBuilder quote = new StringBuilder();
            Matcher texts = Pattern.compile(TEXT).matcher(says.group(1));
            while (texts.find()) {
                quote.append(texts.group(), 1, texts.group().length() - 1);
            }
            for (int at = document.indexOf(quote.toString()); at >= 0; at = document.indexOf(quote.toString(), at + 1)) {
                Arrays.fill(covered, at, at + quote.length(), true);
            }
        }
    }

    /** What is not quoted, in parts; a promise's heading and its face are left out. */
    private static String left(String document, boolean[] covered, int from, int to) {
        StringBuilder all = new StringBuilder();
        for (int i = from; i < to; i++) {
            all.append(covered[i] ? '\u0001' : document.charAt(i));
        }
        return all.toString().replaceAll("## Promise \\d+: [\\w ]+ `[^`]*`: ", "\u0001");
    }
}
