/** Promises 16 and 17: ROWS and COUPLES. */
public final class CompanyTest {
    private static final Checks CHECKS = new Checks();

    public static void main(String[] args) {
        rows();
        leastRow();
        wishesInRows();
        wrongRows();
        couples();
        likeCouples();
        wrongCouples();
        CHECKS.end();
    }

    private static TalkingPlots with(int... topics) {
        TalkingPlots x = new TalkingPlots();
        for (int p = 0; p < topics.length; p++) {
            x.person(p, topics[p], 1);
        }
        return x;
    }

    private static void row(TalkingPlots x, int people, int talk, int... row) {
        CHECKS.due("TALK of row " + people, x.row(people, 100), talk);
        for (int i = 0; i < 7; i++) {
            CHECKS.due("place " + i + " of row " + people, x.row(people, i), i < row.length ? row[i] : -4);
        }
    }

    private static void rows() {
        TalkingPlots x = with(1, 3, 2, 6, 4, 12, 8);
        row(x, 127, 6 * 2, 0, 1, 2, 3, 4, 5, 6);
        x = with(8, 2, 1, 4, 3, 6, 12);
        row(x, 127, 6 * 2, 0, 6, 3, 5, 1, 4, 2);
        row(x, 0b10100, 2, 2, 4);
        row(x, 0b0000111, -4, 0, 1, 2);
    }

    private static void leastRow() {
        TalkingPlots x = with(1, 1, 1, 1, 1, 1, 1, 1);
        row(x, 0b11111110, 18, 1, 2, 3, 4, 5, 6, 7);
        x = with(1, 2, 1, 2);
        row(x, 15, 3 - 2 + 3, 0, 2, 1, 3);
        x = with(0, 0, 0);
        row(x, 7, 0, 0, 1, 2);
        x.person(15, 1, 1);
        x.person(14, 3, 1);
        row(x, 0b1100000000000001, 2 - 1, 0, 15, 14);
    }

    private static void wishesInRows() {
        TalkingPlots x = with(1, 1, 1, 1, 1, 1, 1, 1);
        wished(x, "h#", 5040);
        wished(x, "a+h", 5040);
        wished(x, "h+a;h-b;h.", 5040);
        wished(x, "a#", 1440);
        wished(x, "a#;b#", 240);
        wished(x, "a#;b#;c#", 0);
        wished(x, "a+b", 1440);
        wished(x, "b+a;a+b", 1440);
        wished(x, "a-b", 3600);
        wished(x, "a+b;b-a", 0);
        wished(x, "a+b;b+c", 240);
        wished(x, "a+b;b+c;c+a", 0);
        wished(x, "a+b;a+c;a+d", 0);
        wished(x, "a.", 0);
        wished(x, "a+b;c+d", 480);
        wished(x, "a#;a+b", 240);
        wished(x, "a+b;b+c;c+d;d+e;e+f;f+g", 2);
        wished(x, "a+b;b+c;c+d;d+e;e+f;f+g;a#;g#;a-c", 2);
        Checks.wishes(x, "a#;b-c");
        CHECKS.due("of two", x.row(3, 101), 2);
        CHECKS.due("of three, b and c at the ends", x.row(7, 101), 0);
        CHECKS.due("of three, b without c", x.row(0b1011, 101), 4);
        CHECKS.due("two who would not", x.row(6, 101), 0);
    }

    private static void wished(TalkingPlots x, String text, int want) {
        Checks.wishes(x, text);
        CHECKS.due("rows by " + text, x.row(127, 101), want);
    }

    private static void wrongRows() {
        TalkingPlots x = with(1, 1, 1, 1, 1, 1, 1, 1);
        for (int people : new int[] {0, 1, 128, 255, 65535, 65537, 65539, -1, Integer.MIN_VALUE | 3, Integer.MIN_VALUE}) {
            CHECKS.due("row(" + people + ", 100)", x.row(people, 100), -1000);
        }
        for (int what : new int[] {-1, 7, 99, 102, Integer.MAX_VALUE, Integer.MIN_VALUE}) {
            CHECKS.due("row(3, " + what + ")", x.row(3, what), -1000);
        }
        CHECKS.due("one is not told", x.row(0b100000001, 100), -2);
        CHECKS.due("one is not told, rows", x.row(0b100000001, 101), -2);
        CHECKS.due("one is not told, place", x.row(0b100000001, 5), -2);
        CHECKS.due("no such place", x.row(3, 2), -4);
        CHECKS.due("the last place", x.row(3, 1), 1);
    }

    private static void pairs(TalkingPlots x, int people, int talk, int... with) {
        CHECKS.due("TALK of couples " + people, x.couples(people, 100), talk);
        for (int i = 0; i < with.length; i++) {
            CHECKS.due("with " + i + " of " + people, x.couples(people, i), with[i]);
        }
    }

    private static void couples() {
        TalkingPlots x = with(1, 7, 7, 56, 24, 64);
        pairs(x, 0b000111, 9, -2, 2, 1);
        pairs(x, 0b111111, 14, -2, 2, 1, 4, 3, -2);
        pairs(x, 0b100001, 0, -2, -3, -3, -3, -3, -2);
        x = with(3, 7, 6, 1);
        pairs(x, 0b1111, 7, 3, 2, 1, 0);
        x = with(1, 1, 1, 1, 1, 1, 1, 1, 1, 1);
        pairs(x, 1023, 15, 1, 0, 3, 2, 5, 4, 7, 6, 9, 8);
        x.person(15, 1, 1);
        CHECKS.due("with p", x.couples(0b1000001000000000, 9), 15);
        CHECKS.due("p with", x.couples(0b1000001000000000, 15), 9);
    }

    private static void likeCouples() {
        TalkingPlots x = with(1, 1, 1);
        pairs(x, 7, 3, 1, 0, -2);
        x = with(1, 2, 3, 3);
        pairs(x, 15, 6, -2, -2, 3, 2);
        x = with(3, 3, 3, 3);
        pairs(x, 15, 12, 1, 0, 3, 2);
        x = with(1, 2, 1, 2);
        pairs(x, 15, 6, 2, 3, 0, 1);
        x = with(3, 1, 3, 1);
        pairs(x, 15, 9, 2, 3, 0, 1);
        x = with(7, 3, 1);
        pairs(x, 7, 5, 1, 0, -2);
        x = with(1, 3, 2);
        pairs(x, 7, 2, 1, 0, -2);
    }

    private static void wrongCouples() {
        TalkingPlots x = with(1, 1, 1, 1, 1, 1, 1, 1, 1, 1, 1);
        for (int people : new int[] {0, 1, 1024, 2047, 65535, 65539, -1, Integer.MIN_VALUE | 3}) {
            CHECKS.due("couples(" + people + ", 100)", x.couples(people, 100), -1000);
        }
        for (int what : new int[] {-1, 16, 99, 101, Integer.MAX_VALUE, Integer.MIN_VALUE}) {
            CHECKS.due("couples(3, " + what + ")", x.couples(3, what), -1000);
        }
        CHECKS.due("one is not told", x.couples(0b1000000000001, 100), -3);
        CHECKS.due("one is not told, with whom", x.couples(0b1000000000001, 0), -3);
        CHECKS.due("none of them", x.couples(3, 2), -3);
        CHECKS.due("none of them, not told", x.couples(3, 15), -3);
    }
}
