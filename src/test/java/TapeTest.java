/** Promises 3 and 30, and what promises 4, 5, 6 and 21 say of the tape. */
public final class TapeTest {
    private static final Checks CHECKS = new Checks();

    public static void main(String[] args) {
        feeds();
        refusals();
        tapeIsEmptied();
        checksMoods();
        CHECKS.end();
    }

    private static void feeds() {
        TalkingPlots x = new TalkingPlots();
        for (int i = 1; i <= 13; i++) {
            CHECKS.due("feed " + i, x.feed(0, 0, 0, 0, 0), 20 * i);
        }
        CHECKS.due("a 14th feed", x.feed(0, 0, 0, 0, 0), -1);
        CHECKS.due("the tape stays", x.count(5), 260);
        CHECKS.due("check(16)", x.check(16), -1);
        CHECKS.due("empty then", x.count(5), 0);
        CHECKS.due("the highest byte first", x.feed(0x01020304, 0xFFFEFDFC, 0, 0, 0), 20);
        for (int p = 0; p < 3; p++) {
            x.person(p, 0, p + 1);
        }
        CHECKS.due("three are right", x.check(4), 3);
        x.feed(0x01020304, 0xFFFEFDFC, 0, 0, 0);
        x.person(3, 0, 4);
        CHECKS.due("bytes have no sign", x.check(5), 4);
    }

    private static void refusals() {
        TalkingPlots x = new TalkingPlots();
        x.person(0, 1, 50);
        CHECKS.due("law(1) of nothing", x.law(1), -1);
        CHECKS.due("burials(1) of nothing", x.burials(1), -1);
        CHECKS.due("wishes(1) of nothing", x.wishes(1), -1);
        CHECKS.due("thread(1, 100) of nothing", x.thread(1, 100), -1);
        CHECKS.due("check(1) of nothing", x.check(1), -2);
        CHECKS.due("check(0) of nothing", x.check(0), -1);
        for (int i = 0; i < 13; i++) {
            x.feed(0x61213B61, 0x213B6121, 0x3B61213B, 0x61213B61, 0x213B6121);
        }
        for (int n : new int[] {0, -1, 241, Integer.MAX_VALUE, Integer.MIN_VALUE}) {
            CHECKS.due("law(" + n + ")", x.law(n), -1);
        }
        for (int n : new int[] {0, -1, 121, Integer.MAX_VALUE, Integer.MIN_VALUE}) {
            CHECKS.due("burials(" + n + ")", x.burials(n), -1);
            CHECKS.due("wishes(" + n + ")", x.wishes(n), -1);
        }
        for (int n : new int[] {-1, 17, Integer.MAX_VALUE, Integer.MIN_VALUE}) {
            CHECKS.due("check(" + n + ")", x.check(n), -2);
        }
        for (int n : new int[] {0, -1, 21, Integer.MAX_VALUE, Integer.MIN_VALUE}) {
            CHECKS.due("thread(" + n + ", 100)", x.thread(n, 100), -1);
        }
        for (int what : new int[] {-1, 20, 99, 101}) {
            CHECKS.due("thread(1, " + what + ")", x.thread(1, what), -1);
        }
        CHECKS.due("the tape stays", x.count(5), 260);
        CHECKS.due("burials(2)", x.burials(2), 1);
        CHECKS.due("empty then", x.count(5), 0);
        x.feed(0, 0, 0, 0, 0);
        CHECKS.due("law(21) of 20", x.law(21), -1);
        CHECKS.due("burials(21) of 20", x.burials(21), -1);
        CHECKS.due("wishes(21) of 20", x.wishes(21), -1);
        CHECKS.due("thread(11, 0) of 20", x.thread(11, 0), -1);
        CHECKS.due("20 stay", x.count(5), 20);
    }

    private static void tapeIsEmptied() {
        TalkingPlots x = new TalkingPlots();
        x.feed(0, 0, 0, 0, 0);
        CHECKS.due("a FAULT of THE LAW", x.law(20), -1000);
        CHECKS.due("empty then", x.count(5), 0);
        x.feed(0, 0, 0, 0, 0);
        CHECKS.due("a FAULT of BURIALS", x.burials(20), -1000);
        CHECKS.due("empty then", x.count(5), 0);
        x.feed(0, 0, 0, 0, 0);
        CHECKS.due("a FAULT of WISHES", x.wishes(20), -1000);
        CHECKS.due("empty then", x.count(5), 0);
        x.feed(0, 0, 0, 0, 0);
        CHECKS.due("a place behind the THREAD", x.thread(10, 1), -4);
        CHECKS.due("empty then", x.count(5), 0);
        x.feed(0, 0, 0, 0, 0);
        CHECKS.due("check(0)", x.check(0), -1);
        CHECKS.due("empty then", x.count(5), 0);
    }

    private static void checksMoods() {
        TalkingPlots x = new TalkingPlots();
        x.person(0, 0, 65);
        x.person(2, 0, 67);
        Checks.feed(x, "A" + (char) 0 + "C" + (char) 0);
        CHECKS.due("right", x.check(4), -1);
        Checks.feed(x, "A" + (char) 0 + "D" + (char) 0);
        CHECKS.due("the third is wrong", x.check(4), 2);
        Checks.feed(x, "AB");
        CHECKS.due("one not told has 0", x.check(2), 1);
        Checks.feed(x, "B");
        CHECKS.due("the first is wrong", x.check(16), 0);
        Checks.feed(x, "B");
        CHECKS.due("none asked", x.check(0), -1);
    }
}
