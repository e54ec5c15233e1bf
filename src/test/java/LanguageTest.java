import java.io.IOException;
import java.nio.charset.StandardCharsets;
import java.nio.file.Files;
import java.nio.file.Path;
import java.util.regex.Matcher;
import java.util.regex.Pattern;

/** What of ../shared/LANGUAGE.md can be seen in the text of the class. Run from the project's folder. */
public final class LanguageTest {
    private static final Path SOURCE = Path.of("src/main/java/TalkingPlots.java");
    private static final String[] WORDS = {
        "package", "throw", "throws", "try", "catch", "finally", "synchronized", "assert", "double", "float",
        "Object", "Exception", "protected", "native", "volatile", "transient", "hashCode", "equals", "toString",
        "String", "StringBuilder", "List", "ArrayList", "goto", "strictfp", "this::", "MIN_VALUE", "MAX_VALUE",
    };
    /** All of the library that the class uses. */
    private static final Pattern LIBRARY = Pattern.compile("\\b(Arrays|System|Integer|Long|Math)\\.(\\w+)");
    private static final String ALLOWED = " Arrays.fill System.arraycopy Integer.bitCount Long.bitCount Math.max Math.min ";

    public static void main(String[] args) throws IOException {
        Checks checks = new Checks();
        String whole = Files.readString(SOURCE, StandardCharsets.ISO_8859_1);
        String code = whole.replaceAll("(?s)/\\*.*?\\*/", " ").replaceAll("//[^\n]*", " ");
        for (String word : WORDS) {
            checks.due("'" + word + "' stands in it", Pattern.compile("\\b" + word + "\\b").matcher(code).find(), false);
        }
        checks.due("a lambda", code.contains("->"), false);
        checks.due("a method reference", code.contains("::"), false);
        checks.due("a static block", Pattern.compile("static\\s*\\{").matcher(code).find(), false);
        checks.due("imports", code.split("\\bimport\\b").length - 1, 1);
        checks.due("the import", code.contains("import java.util.Arrays;"), true);
        Matcher used = LIBRARY.matcher(code);
        while (used.find()) {
            checks.due(used.group() + " is allowed", ALLOWED.contains(" " + used.group() + " "), true);
        }
        for (char c : whole.toCharArray()) {
            if (c > 126) {
                checks.due("a sign beyond 126", c, 126);
            }
        }
        madeInConstructorsAlone(checks, code);
        shortMethods(checks, code);
        checks.end();
    }

    /** A call makes no object: what is made is a field, or stands in the constructor. */
    private static void madeInConstructorsAlone(Checks checks, String code) {
        int begin = code.indexOf("public TalkingPlots()");
        int end = code.indexOf("\n    }", begin);
        for (int at = code.indexOf("new "); at >= 0; at = code.indexOf("new ", at + 1)) {
            String line = code.substring(code.lastIndexOf('\n', at) + 1, code.indexOf('\n', at));
            boolean isField = line.matches(" {8}(private )?final int\\[\\] \\w+ = new int\\[.*\\];");
            checks.due("made when the object is: " + line.trim(), isField || at > begin && at < end, true);
        }
    }

    private static void shortMethods(Checks checks, String code) {
        String[] lines = code.split("\n");
        int start = -1;
        int depth = 0;
        for (int i = 0; i < lines.length; i++) {
            boolean opens = lines[i].matches(" {4}( {4})?[\\w\\[\\] ]+\\([^;]*\\) \\{");
            if (opens && start < 0) {
                start = i;
                depth = lines[i].indexOf(lines[i].trim());
            } else if (start >= 0 && lines[i].equals(" ".repeat(depth) + "}")) {
                checks.due("lines of " + lines[start].trim(), i - start + 1 <= 60, true);
                start = -1;
            }
        }
    }
}
