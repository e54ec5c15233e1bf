/** Promises 1, 2, 9, 10, 26 and 31: a new object, who is told, what is known of him. */
public final class PeopleTest {
    private static final Checks CHECKS = new Checks();

    public static void main(String[] args) {
        newObject();
        tellsPeople();
        tellsAgain();
        whatOneIs();
        talkOfTwo();
        ranks();
        alike();
        counts();
        CHECKS.end();
    }

    private static void newObject() {
        TalkingPlots x = new TalkingPlots();
        CHECKS.due("NONE", TalkingPlots.NONE, -1);
        for (int what = 0; what <= 7; what++) {
            CHECKS.due("new count(" + what + ")", x.count(what), what == 6 ? 1 : 0);
        }
        for (int plot = 0; plot < 60; plot++) {
            CHECKS.due("new count of plot " + plot, x.count(20 + plot), -2);
        }
        for (int p = 0; p < 16; p++) {
            CHECKS.due("new personIs(" + p + ", 0)", x.personIs(p, 0), -1);
        }
        CHECKS.due("new undo()", x.undo(), false);
    }

    private static void tellsPeople() {
        TalkingPlots x = new TalkingPlots();
        CHECKS.due("person(-1, 0, 0)", x.person(-1, 0, 0), false);
        CHECKS.due("person(16, 0, 0)", x.person(16, 0, 0), false);
        CHECKS.due("person(MIN, 0, 0)", x.person(Integer.MIN_VALUE, 0, 0), false);
        CHECKS.due("person(0, -1, 0)", x.person(0, -1, 0), false);
        CHECKS.due("person(0, 65536, 0)", x.person(0, 65536, 0), false);
        CHECKS.due("person(0, 0, -1)", x.person(0, 0, -1), false);
        CHECKS.due("person(0, 0, 100)", x.person(0, 0, 100), false);
        CHECKS.due("told by false calls", x.count(1), 0);
        CHECKS.due("person(0, 0, 0)", x.person(0, 0, 0), true);
        CHECKS.due("person(15, 65535, 99)", x.person(15, 65535, 99), true);
        CHECKS.due("told", x.count(1), 32769);
        CHECKS.due("topics of p", x.personIs(15, 0), 65535);
        CHECKS.due("mood of p", x.personIs(15, 1), 99);
        CHECKS.due("topics of a", x.personIs(0, 0), 0);
        CHECKS.due("mood of a", x.personIs(0, 1), 0);
    }

    private static void tellsAgain() {
        TalkingPlots x = new TalkingPlots();
        x.person(3, 5, 7);
        CHECKS.due("burials", Checks.burials(x, "d@4,2"), 1);
        CHECKS.due("false changes nothing", x.person(3, 1, 100), false);
        CHECKS.due("still laid", x.personIs(3, 2), 24);
        CHECKS.due("told again", x.person(3, 6, 8), true);
        CHECKS.due("topics then", x.personIs(3, 0), 6);
        CHECKS.due("mood then", x.personIs(3, 1), 8);
        CHECKS.due("not laid then", x.personIs(3, 2), -2);
        CHECKS.due("his plot is free", x.count(44), -2);
        CHECKS.due("nobody is laid", x.count(2), 0);
    }

    private static void whatOneIs() {
        TalkingPlots x = new TalkingPlots();
        for (int p = 0; p < 5; p++) {
            x.person(p, p, 10 * p);
        }
        Checks.burials(x, "a@9,0;b@0,1;c@8,0;d@9,1");
        CHECKS.due("plot of a", x.personIs(0, 2), 9);
        CHECKS.due("plot of b", x.personIs(1, 2), 10);
        CHECKS.due("plot of e", x.personIs(4, 2), -2);
        CHECKS.due("no wall is next to the other one", x.personIs(0, 3), 4 | 8);
        CHECKS.due("beside b", x.personIs(1, 3), 0);
        CHECKS.due("beside e", x.personIs(4, 3), 0);
        CHECKS.due("what -1", x.personIs(0, -1), -1);
        CHECKS.due("what 5", x.personIs(0, 5), -1);
        CHECKS.due("not told", x.personIs(5, 1), -1);
        CHECKS.due("p -1", x.personIs(-1, 1), -1);
        CHECKS.due("p 16", x.personIs(16, 1), -1);
    }

    private static void talkOfTwo() {
        TalkingPlots x = new TalkingPlots();
        x.person(0, 7, 1);
        x.person(1, 3, 1);
        x.person(2, 65535, 1);
        x.person(3, 0, 1);
        x.person(4, 65535, 1);
        CHECKS.due("talk(0, 1)", x.talk(0, 1), 5);
        CHECKS.due("talk(1, 0)", x.talk(1, 0), 5);
        CHECKS.due("talk(2, 3)", x.talk(2, 3), -16);
        CHECKS.due("talk(2, 4)", x.talk(2, 4), 48);
        CHECKS.due("talk(0, 0)", x.talk(0, 0), -1000);
        CHECKS.due("talk(0, 5)", x.talk(0, 5), -1000);
        CHECKS.due("talk(5, 0)", x.talk(5, 0), -1000);
        CHECKS.due("talk(0, -1)", x.talk(0, -1), -1000);
        CHECKS.due("talk(16, 0)", x.talk(16, 0), -1000);
    }

    private static void ranks() {
        TalkingPlots x = new TalkingPlots();
        x.person(2, 0, 5);
        x.person(4, 0, 9);
        x.person(6, 0, 5);
        x.person(8, 0, 0);
        CHECKS.due("rank of e", x.personIs(4, 4), 0);
        CHECKS.due("rank of c", x.personIs(2, 4), 1);
        CHECKS.due("rank of g", x.personIs(6, 4), 2);
        CHECKS.due("rank of i", x.personIs(8, 4), 3);
        CHECKS.due("rank of one not told", x.personIs(0, 4), -1);
    }

    private static void alike() {
        TalkingPlots x = new TalkingPlots();
        x.person(5, 7, 1);
        CHECKS.due("alone", x.alike(5, 0), -2);
        CHECKS.due("alone, how many", x.alike(5, 1), -2);
        x.person(9, 4, 1);
        x.person(3, 1, 1);
        CHECKS.due("the lowest of like ones", x.alike(5, 0), 3);
        CHECKS.due("how many", x.alike(5, 1), 2);
        x.person(12, 6, 1);
        CHECKS.due("fewer", x.alike(5, 0), 12);
        CHECKS.due("fewer, how many", x.alike(5, 1), 1);
        x.person(14, 7, 1);
        CHECKS.due("none", x.alike(5, 1), 0);
        CHECKS.due("what 2", x.alike(5, 2), -1);
        CHECKS.due("what -1", x.alike(5, -1), -1);
        CHECKS.due("not told", x.alike(0, 0), -1);
        CHECKS.due("p 16", x.alike(16, 0), -1);
    }

    private static void counts() {
        TalkingPlots x = new TalkingPlots();
        x.person(1, 0, 30);
        x.person(4, 0, 12);
        Checks.burials(x, "e@9,5");
        Checks.wishes(x, "a#;b.");
        Checks.law(x, "q(1=2);g1(1=1);b2(1=2)");
        x.nights(2);
        x.seed(77);
        Checks.feed(x, "abc");
        CHECKS.due("THE NIGHT", x.count(0), 2);
        CHECKS.due("told", x.count(1), 18);
        CHECKS.due("laid", x.count(2), 16);
        CHECKS.due("WISHES", x.count(3), 2);
        CHECKS.due("RULES", x.count(4), 3);
        CHECKS.due("bytes", x.count(5), 20);
        CHECKS.due("X", x.count(6), 77);
        CHECKS.due("MOOD of all", x.count(7), 30 + 12 + 2);
        CHECKS.due("who lies there", x.count(79), 4);
        CHECKS.due("nobody", x.count(20), -2);
        for (int what : new int[] {-1, 8, 19, 80, Integer.MAX_VALUE, Integer.MIN_VALUE}) {
            CHECKS.due("count(" + what + ")", x.count(what), -1);
        }
    }
}
