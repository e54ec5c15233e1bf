/** Promise 5: BURIALS, what they do and their FAULTS. */
public final class BurialsTest {
    private static final Checks CHECKS = new Checks();

    public static void main(String[] args) {
        lays();
        exchanges();
        topics();
        faults();
        taken();
        manyLines();
        nothingIsDone();
        CHECKS.end();
    }

    private static TalkingPlots four() {
        TalkingPlots x = new TalkingPlots();
        for (int p = 0; p < 4; p++) {
            x.person(p, 1 << p, 10);
        }
        return x;
    }

    private static void due(TalkingPlots x, String text, int want) {
        CHECKS.due("burials of " + text, Checks.burials(x, text), want);
    }

    private static void lays() {
        TalkingPlots x = four();
        due(x, "a@9,5", 1);
        CHECKS.due("a lies", x.personIs(0, 2), 59);
        due(x, "a@0,5", 1);
        CHECKS.due("a lies elsewhere", x.personIs(0, 2), 50);
        CHECKS.due("his plot before is free", x.count(79), -2);
        due(x, "a@0,5", 1);
        CHECKS.due("on his own plot", x.count(70), 0);
        due(x, "a!;b@0,5;b!;b!", 4);
        CHECKS.due("nobody is laid", x.count(2), 0);
        CHECKS.due("nobody is on the plot", x.count(70), -2);
    }

    private static void exchanges() {
        TalkingPlots x = four();
        due(x, "a@0,0;b@5,5;a=b", 3);
        CHECKS.due("a", x.personIs(0, 2), 55);
        CHECKS.due("b", x.personIs(1, 2), 0);
        due(x, "c=a", 1);
        CHECKS.due("a has none", x.personIs(0, 2), -2);
        CHECKS.due("c has his", x.personIs(2, 2), 55);
        CHECKS.due("c lies there", x.count(75), 2);
        due(x, "c=a", 1);
        CHECKS.due("a has his again", x.personIs(0, 2), 55);
        CHECKS.due("c has none", x.personIs(2, 2), -2);
        due(x, "c=d", 1);
        CHECKS.due("both have none", x.count(2), 3);
        due(x, "a=a", 1);
        CHECKS.due("one with himself", x.count(75), 0);
    }

    private static void topics() {
        TalkingPlots x = four();
        due(x, "a+A;a+P;a-A;a-B;b-B", 5);
        CHECKS.due("topics of a", x.personIs(0, 0), 32768);
        CHECKS.due("topics of b", x.personIs(1, 0), 0);
    }

    private static void faults() {
        TalkingPlots x = four();
        due(x, "q!", -1000);
        due(x, "A!", -1000);
        due(x, ";a!", -1000);
        due(x, "a", -1001);
        due(x, "a?", -1001);
        due(x, "a ", -1001);
        due(x, "a@", -1002);
        due(x, "a@a", -1002);
        due(x, "a@1", -1003);
        due(x, "a@1;", -1003);
        due(x, "a@1,", -1004);
        due(x, "a@1,x", -1004);
        due(x, "a@1,6", -3004);
        due(x, "a@1,9", -3004);
        due(x, "a@1,55", -1005);
        due(x, "a!;", -1003);
        due(x, "a!!", -1002);
        due(x, "a!,b!", -1002);
        due(x, "a!;b", -1004);
        due(x, "a=", -1002);
        due(x, "a=q", -1002);
        due(x, "a=e", -7002);
        due(x, "a+", -1002);
        due(x, "a+a", -1002);
        due(x, "a+Q", -1002);
        due(x, "a-@", -1002);
        due(x, "e@0,0", -7000);
        due(x, "e?", -7000);
        due(x, "a!;p!", -7003);
        due(x, "a" + (char) 225, -1001);
        due(x, "" + (char) 0, -1000);
    }

    private static void taken() {
        TalkingPlots x = four();
        due(x, "a@3,3", 1);
        due(x, "b@3,3", -8002);
        due(x, "b@3,3?", -8002);
        due(x, "b@3,9", -3004);
        due(x, "c@1,1;b@1,1", -8008);
        due(x, "a!;b@3,3", 2);
        due(x, "b@2,2;c@3,3", 2);
        due(x, "b=c;b@2,2", -8006);
        due(x, "b=c;c@2,2", 2);
    }

    private static void manyLines() {
        TalkingPlots x = four();
        due(x, Checks.again("a!", ";", 20), 20);
        due(x, Checks.again("a!", ";", 21), -4060);
        due(x, Checks.again("a!", ";", 20) + ";e", -4060);
        due(x, Checks.again("a!", ";", 20) + ";q", -1060);
        due(x, Checks.again("a!", ";", 20) + ";", -1060);
        due(x, Checks.again("a@0,0", ";", 20), 20);
        due(x, Checks.again("a@0,0", ";", 20) + ";", -1120);
    }

    private static void nothingIsDone() {
        TalkingPlots x = four();
        due(x, "a@0,0;b@1,0", 2);
        due(x, "a@5,5;b!;a+H;c=b;c", -1018);
        CHECKS.due("a stays", x.personIs(0, 2), 0);
        CHECKS.due("b stays", x.personIs(1, 2), 1);
        CHECKS.due("topics stay", x.personIs(0, 0), 1);
        CHECKS.due("laid stay", x.count(2), 3);
    }
}
