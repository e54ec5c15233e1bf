import java.io.IOException;
import java.nio.charset.StandardCharsets;
import java.nio.file.Files;
import java.nio.file.Path;
import java.util.function.Consumer;
import java.util.function.ToIntFunction;

/**
 * Sentences of the document that name a boundary case, each with the answers that are due by it.
 * A sentence is quoted, so that a test can't ask for what the document does not say.
 * Run from the project's folder.
 */
final class Sentences {
    private static final Path DOCUMENT = Path.of("../shared/DOC.md");

    private final Checks checks = new Checks();
    private final String document;
    private String sentence = "";
    private int sentences;
    private int answers;

    Sentences() throws IOException {
        document = oneLine(Files.readString(DOCUMENT, StandardCharsets.UTF_8));
    }

    private static String oneLine(String text) {
        return text.replaceAll("\\s+", " ");
    }

    /** What is due from here on is due by this sentence. */
    void says(String quote) {
        endSentence();
        sentence = quote;
        sentences++;
        checks.due("in the document: " + quote, document.contains(oneLine(quote)), true);
    }

    private void endSentence() {
        checks.due("answers due by: " + sentence, sentences == 0 || answers > 0, true);
        answers = 0;
    }

    void due(String call, long got, long want) {
        answers++;
        checks.due("[" + sentence + "] " + call, got, want);
    }

    void due(String call, boolean got, boolean want) {
        due(call, got ? 1L : 0L, want ? 1L : 0L);
    }

    void law(TalkingPlots x, String text, int want) {
        due("law of " + text, Checks.law(x, text), want);
    }

    void burials(TalkingPlots x, String text, int want) {
        due("burials of " + text, Checks.burials(x, text), want);
    }

    void wishes(TalkingPlots x, String text, int want) {
        due("wishes of " + text, Checks.wishes(x, text), want);
    }

    /** A blank put at any place of a right text can't stand there. */
    void noBlanks(String text, ToIntFunction<String> read) {
        for (int i = 0; i <= text.length(); i++) {
            String spoilt = text.substring(0, i) + " " + text.substring(i);
            due("a blank: " + spoilt, read.applyAsInt(spoilt), -1000 - i);
        }
    }

    /** A text that is cut off is right where a ; was, and has a FAULT at its end else. */
    void cutOff(String text, ToIntFunction<String> read) {
        int lines = 1;
        for (int i = 1; i <= text.length(); i++) {
            boolean isWhole = i == text.length() || text.charAt(i) == ';';
            String part = text.substring(0, i);
            due("cut off: " + part, read.applyAsInt(part), isWhole ? lines : -1000 - i);
            lines += isWhole ? 1 : 0;
        }
    }

    /** The one who is told, from a on, has the topics; all have MOOD 50. */
    static TalkingPlots with(int... topics) {
        TalkingPlots x = new TalkingPlots();
        for (int p = 0; p < topics.length; p++) {
            x.person(p, topics[p], 50);
        }
        return x;
    }

    static TalkingPlots laid(String burials, int... topics) {
        TalkingPlots x = with(topics);
        Checks.burials(x, burials);
        return x;
    }

    /** Of two yards that were made alike, the call goes to the one alone: then they still answer alike. */
    void changesNothing(String call, Consumer<TalkingPlots> make, Consumer<TalkingPlots> what) {
        TalkingPlots one = new TalkingPlots();
        TalkingPlots other = new TalkingPlots();
        make.accept(one);
        make.accept(other);
        what.accept(one);
        StringBuilder ofOne = answers(one);
        StringBuilder ofOther = answers(other);
        due("the same behind " + call + ": " + ofOne + " as without: " + ofOther, ofOne.compareTo(ofOther), 0);
    }

    /** All that can be seen of a yard, what was KEPT and what the tape begins with at the end. */
    private static StringBuilder answers(TalkingPlots x) {
        StringBuilder all = new StringBuilder();
        seen(x, all);
        all.append("tried");
        for (int what = 0; what <= 2; what++) {
            all.append(' ').append(x.tried(7, what));
        }
        all.append(" hold ").append(x.hold(0)).append(' ').append(x.hold(1)).append(' ').append(x.row(7, 101));
        int tape = x.count(5);
        all.append(" tape ").append(tape).append(' ').append(x.law(Math.min(tape, 240)));
        all.append(' ').append(x.tried(7, 10)).append(' ').append(x.count(4));
        all.append(" kept ").append(x.undo()).append(' ');
        seen(x, all);
        return all;
    }

    private static void seen(TalkingPlots x, StringBuilder all) {
        for (int what = 0; what <= 7; what++) {
            all.append(x.count(what)).append(' ');
        }
        for (int p = 0; p < 16; p++) {
            for (int what = 0; what <= 2; what++) {
                all.append(x.personIs(p, what)).append(' ');
            }
        }
    }

    void end() {
        endSentence();
        System.out.println(sentences + " sentences");
        checks.end();
    }
}
