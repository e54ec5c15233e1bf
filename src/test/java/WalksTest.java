/** Promises 18, 19, 20, 23, 24 and 25: HEARD, CIRCLES, FROM, SILENT and VISITORS. */
public final class WalksTest {
    private static final Checks CHECKS = new Checks();

    public static void main(String[] args) {
        heard();
        circles();
        from();
        silent();
        visitors();
        wayRound();
        CHECKS.end();
    }

    private static TalkingPlots six() {
        TalkingPlots x = new TalkingPlots();
        for (int p = 0; p < 6; p++) {
            x.person(p, 1 << p, 1);
        }
        return x;
    }

    private static void heard() {
        TalkingPlots x = six();
        CHECKS.due("nobody has it", x.heard(15, 0), 0);
        CHECKS.due("who has it", x.heard(15, 1), 0);
        CHECKS.due("one not laid has it", x.heard(0, 1), 1);
        Checks.burials(x, "a@9,0;b@9,1;c@9,2;d@0,1;e@8,2");
        CHECKS.due("three NIGHTS", x.heard(0, 0), 3);
        CHECKS.due("who", x.heard(0, 1), 0b10111);
        CHECKS.due("from the midst", x.heard(1, 0), 2);
        CHECKS.due("d alone", x.heard(3, 0), 0);
        CHECKS.due("d alone, who", x.heard(3, 1), 8);
        Checks.burials(x, "f+A;e+A;d+A");
        CHECKS.due("from both ends", x.heard(0, 0), 1);
        CHECKS.due("those too who are not laid", x.heard(0, 1), 63);
        CHECKS.due("topic -1", x.heard(-1, 0), -1);
        CHECKS.due("topic 16", x.heard(16, 0), -1);
        CHECKS.due("what -1", x.heard(0, -1), -1);
        CHECKS.due("what 2", x.heard(0, 2), -1);
    }

    private static void circles() {
        TalkingPlots x = six();
        CHECKS.due("none", x.circles(100), 0);
        CHECKS.due("a is not laid", x.circles(0), 0);
        Checks.burials(x, "a@9,0;b@0,1;c@9,1;d@5,5;e@6,5");
        CHECKS.due("three", x.circles(100), 3);
        CHECKS.due("a's", x.circles(0), 5);
        CHECKS.due("b's", x.circles(1), 2);
        CHECKS.due("e's", x.circles(4), 24);
        CHECKS.due("f is not laid", x.circles(5), 0);
        CHECKS.due("not told", x.circles(6), -1);
        for (int what : new int[] {-1, 16, 99, 101}) {
            CHECKS.due("circles(" + what + ")", x.circles(what), -1);
        }
    }

    private static void from() {
        TalkingPlots x = six();
        CHECKS.due("not laid", x.from(0, 1), -2);
        CHECKS.due("not laid, himself", x.from(0, 0), -2);
        Checks.burials(x, "a@0,0;b@1,0;c@1,1;d@1,2;e@0,2");
        CHECKS.due("himself", x.from(0, 0), 0);
        CHECKS.due("next", x.from(0, 1), 1);
        CHECKS.due("round", x.from(0, 4), 4);
        CHECKS.due("round, back", x.from(4, 0), 4);
        CHECKS.due("one not laid", x.from(0, 5), -2);
        Checks.burials(x, "f@0,1");
        CHECKS.due("shorter", x.from(0, 4), 2);
        Checks.burials(x, "f@9,1");
        CHECKS.due("no way", x.from(0, 5), -2);
        CHECKS.due("not told", x.from(0, 6), -1);
        CHECKS.due("not told, first", x.from(6, 0), -1);
        CHECKS.due("p -1", x.from(-1, 0), -1);
        CHECKS.due("to 16", x.from(0, 16), -1);
        longWay();
    }

    private static void longWay() {
        TalkingPlots x = new TalkingPlots();
        StringBuilder text = new StringBuilder();
        for (int p = 0; p < 16; p++) {
            x.person(p, p == 0 ? 1 : 0, 1);
        }
        for (int p = 0; p < 16; p++) {
            int px = p < 10 ? p : p < 12 ? 9 : 20 - p;
            int py = p < 10 ? 0 : p == 10 ? 1 : 2;
            px = p == 11 ? 9 : px;
            text.append(text.length() == 0 ? "" : ";").append((char) ('a' + p)).append('@').append(px).append(',').append(py);
        }
        CHECKS.due("sixteen", Checks.burials(x, text.toString()), 16);
        CHECKS.due("the longest way", x.from(0, 15), 15);
        CHECKS.due("the longest hearing", x.heard(0, 0), 15);
        CHECKS.due("all hear", x.heard(0, 1), 65535);
        CHECKS.due("one circle", x.circles(15), 65535);
    }

    private static void silent() {
        TalkingPlots x = six();
        CHECKS.due("all", x.silent(0), 60);
        CHECKS.due("the lowest", x.silent(1), 0);
        CHECKS.due("one block", x.silent(2), 60);
        Checks.burials(x, "a@0,0");
        CHECKS.due("not three of them", x.silent(0), 57);
        CHECKS.due("the lowest then", x.silent(1), 2);
        CHECKS.due("one block then", x.silent(2), 59);
        Checks.burials(x, "a@4,0;b@4,1;c@4,2;d@4,3;e@4,4;f@4,5");
        CHECKS.due("less three columns", x.silent(0), 42);
        CHECKS.due("the lowest is left", x.silent(1), 0);
        CHECKS.due("the larger of two blocks", x.silent(2), 30);
        CHECKS.due("what -1", x.silent(-1), -1);
        CHECKS.due("what 3", x.silent(3), -1);
    }

    private static void visitors() {
        TalkingPlots x = six();
        CHECKS.due("nobody", x.visited(), 0);
        CHECKS.due("not laid", x.visit(0), -2);
        CHECKS.due("not told", x.visit(6), -1);
        CHECKS.due("p -1", x.visit(-1), -1);
        CHECKS.due("p 16", x.visit(16), -1);
        Checks.burials(x, "a@1,0;b@9,5;c@5,0");
        CHECKS.due("at once", x.visit(0), 0);
        CHECKS.due("to the corner", x.visit(1), 13);
        CHECKS.due("round a", x.visit(2), 6);
        CHECKS.due("all three", x.visited(), 7);
        Checks.burials(x, "d@0,1");
        CHECKS.due("shut in, a", x.visit(0), 0);
        CHECKS.due("shut in, d", x.visit(3), 0);
        CHECKS.due("shut in, b", x.visit(1), -2);
        CHECKS.due("two can be come to", x.visited(), 9);
        Checks.burials(x, "e@0,0");
        CHECKS.due("not free", x.visit(4), -2);
        CHECKS.due("not free, a", x.visit(0), -2);
        CHECKS.due("not free, nobody", x.visited(), 0);
    }

    private static void wayRound() {
        TalkingPlots x = new TalkingPlots();
        for (int p = 0; p < 16; p++) {
            x.person(p, 0, 1);
        }
        Checks.burials(x, "a@1,0;b@1,1;c@1,2;d@1,3;e@1,4;f@3,5;g@3,4;h@3,3;i@3,2;j@3,1");
        Checks.burials(x, "k@5,0;l@5,1;m@5,2;n@5,3;o@5,4;p@9,0");
        CHECKS.due("round three walls", x.visit(15), 28);
        CHECKS.due("all", x.visited(), 65535);
        Checks.burials(x, "p@3,0");
        CHECKS.due("nobody beyond the wall", x.visited(), 0b1000001111111111);
        CHECKS.due("the block behind it", x.silent(2), 60 - 16 - 13);
    }
}
