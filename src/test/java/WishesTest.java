/** Promises 6 and 15: WISHES, their FAULTS, and which of them hold. */
public final class WishesTest {
    private static final Checks CHECKS = new Checks();

    public static void main(String[] args) {
        faults();
        manyLines();
        holding();
        byWall();
        notLaid();
        CHECKS.end();
    }

    private static void due(TalkingPlots x, String text, int want) {
        CHECKS.due("wishes of " + text, Checks.wishes(x, text), want);
    }

    private static void faults() {
        TalkingPlots x = new TalkingPlots();
        due(x, "a+b;b-c;c#;d.", 4);
        due(x, "q#", -1000);
        due(x, "a", -1001);
        due(x, "a!", -1001);
        due(x, "a+", -1002);
        due(x, "a-q", -1002);
        due(x, "a+a", -6002);
        due(x, "b#;p-p", -6005);
        due(x, "a#b", -1002);
        due(x, "a.;", -1003);
        due(x, "a+b,c#", -1003);
        due(x, "a" + (char) 163, -1001);
        CHECKS.due("those before stay", x.count(3), 4);
        due(x, "p#", 1);
        CHECKS.due("in place of those before", x.count(3), 1);
    }

    private static void manyLines() {
        TalkingPlots x = new TalkingPlots();
        due(x, Checks.again("a#", ";", 24), 24);
        due(x, Checks.again("a.", ";", 25), -4072);
        due(x, Checks.again("a.", ";", 24) + ";z", -1072);
        due(x, Checks.again("a+b", ";", 24), 24);
        CHECKS.due("24", x.count(3), 24);
    }

    private static void holding() {
        TalkingPlots x = new TalkingPlots();
        CHECKS.due("none hold", x.hold(0), 0);
        CHECKS.due("none does not", x.hold(1), -2);
        CHECKS.due("what -1", x.hold(-1), -1);
        CHECKS.due("what 2", x.hold(2), -1);
        for (int p = 0; p < 4; p++) {
            x.person(p, 0, 1);
        }
        Checks.burials(x, "a@4,2;b@4,3;c@6,2;d@3,2");
        due(x, "a+b;b+a;d+a;a-c;c.;c-d", 6);
        CHECKS.due("all hold", x.hold(0), 6);
        CHECKS.due("the first that does not", x.hold(1), -2);
        due(x, "c.;a+c;a-b;a.;b#", 5);
        CHECKS.due("one holds", x.hold(0), 1);
        CHECKS.due("the second does not", x.hold(1), 1);
    }

    private static void byWall() {
        TalkingPlots x = new TalkingPlots();
        x.person(0, 0, 1);
        due(x, "a#", 1);
        for (int plot = 0; plot < 60; plot++) {
            Checks.burials(x, "a@" + plot % 10 + "," + plot / 10);
            boolean wall = plot < 10 || plot >= 50 || plot % 10 == 0 || plot % 10 == 9;
            CHECKS.due("by the wall on " + plot, x.hold(0), wall ? 1 : 0);
        }
    }

    private static void notLaid() {
        TalkingPlots x = new TalkingPlots();
        x.person(0, 0, 1);
        x.person(1, 0, 1);
        due(x, "a+b;a#;a.;a-b;a-c", 5);
        CHECKS.due("only - holds of one not laid", x.hold(0), 2);
        CHECKS.due("the first", x.hold(1), 0);
        Checks.burials(x, "b@0,0");
        CHECKS.due("one of two is laid", x.hold(0), 2);
        Checks.burials(x, "a@0,1");
        CHECKS.due("both are laid", x.hold(0), 3);
    }
}
