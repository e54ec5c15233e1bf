/** Promises 7, 8, 27, 28 and 29: NIGHTS, what is tried, DRAWS, KEPT and UNDONE. */
public final class NightsTest {
    private static final Checks CHECKS = new Checks();

    public static void main(String[] args) {
        withoutLaw();
        oneBehindTheOther();
        whoTalks();
        learns();
        draws();
        moods();
        tried();
        lastNight();
        keptAndUndone();
        CHECKS.end();
    }

    private static void withoutLaw() {
        TalkingPlots x = new TalkingPlots();
        x.person(0, 1, 50);
        x.person(1, 1, 50);
        Checks.burials(x, "a@0,0;b@1,0");
        for (int n : new int[] {0, -1, 241, Integer.MAX_VALUE, Integer.MIN_VALUE}) {
            CHECKS.due("nights(" + n + ")", x.nights(n), -1);
            CHECKS.due("tried(" + n + ", 0)", x.tried(n, 0), -1);
        }
        CHECKS.due("none goes by", x.count(0), 0);
        CHECKS.due("nobody talks", x.nights(240), 0);
        CHECKS.due("240 went by", x.count(0), 240);
        CHECKS.due("no mood changed", x.count(7), 100);
        CHECKS.due("nothing was drawn", x.count(6), 1);
    }

    /** What the lower one learns and feels is there for the higher one in the same NIGHT. */
    private static void oneBehindTheOther() {
        TalkingPlots x = new TalkingPlots();
        x.person(0, 0, 50);
        x.person(1, 0, 40);
        x.person(2, 1, 30);
        Checks.burials(x, "c@0,0;a@1,0;b@2,0");
        CHECKS.due("law", Checks.law(x, "eo(u>0);h10(1=1);go-m(1=1)"), 3);
        CHECKS.due("a from c, b from a", x.nights(1), 2);
        CHECKS.due("a has it", x.personIs(0, 0), 1);
        CHECKS.due("b has it", x.personIs(1, 0), 1);
        CHECKS.due("b is as a is", x.personIs(1, 1), 50);
        CHECKS.due("c talked with nobody", x.personIs(2, 1), 30);
        CHECKS.due("nobody has more to tell", x.nights(1), 0);
    }

    private static void whoTalks() {
        TalkingPlots x = new TalkingPlots();
        x.person(0, 1, 50);
        x.person(1, 1, 0);
        x.person(2, 1, 50);
        x.person(3, 1, 50);
        x.person(4, 1, 50);
        Checks.burials(x, "a@5,2;b@5,1;c@5,3;d@4,2");
        Checks.law(x, "e1(1=1);gk(1=1)");
        CHECKS.due("a, c, d talk; b is silent, e not laid", x.tried(1, 0), 3);
        CHECKS.due("of like ones the lowest, whose mood is above 0", x.tried(1, 10), 52);
        CHECKS.due("b stays silent", x.tried(1, 11), 0);
        CHECKS.due("e is not there", x.tried(1, 14), 50);
        Checks.law(x, "ek(1=1);gk(1=1)");
        CHECKS.due("the one liked most", x.tried(1, 10), 53);
        Checks.law(x, "ek(1=1);gk(1=1);q(p=3)");
        CHECKS.due("a silent one can be talked with", x.tried(1, 10), 53);
        CHECKS.due("but does not talk", x.tried(1, 13), 50);
        CHECKS.due("c does not like to talk with a", x.tried(1, 0), 1);
        Checks.law(x, "ek(1=1);q(p=3);q(p=0);q(p=2)");
        CHECKS.due("any q will do", x.tried(1, 0), 0);
        Checks.law(x, "e1(p=0);b50(p=0);g1(1=1)");
        CHECKS.due("a talks until he is sad", x.tried(9, 0), 2);
        CHECKS.due("a has 1 left", x.tried(1, 10), 1);
        CHECKS.due("a has none left", x.tried(2, 10), 0);
        CHECKS.due("two laid ones have none", x.tried(2, 2), 2);
        CHECKS.due("one laid one has none", x.tried(1, 2), 1);
    }

    private static void learns() {
        TalkingPlots x = new TalkingPlots();
        x.person(0, 0b1000, 50);
        x.person(1, 0b1110, 50);
        Checks.burials(x, "a@0,0;b@0,1");
        Checks.law(x, "e1(p=0);h10(1=1)");
        CHECKS.due("one talk", x.nights(1), 1);
        CHECKS.due("the lowest topic first", x.personIs(0, 0), 0b1010);
        CHECKS.due("one topic learnt in two", x.tried(2, 1), 1);
        CHECKS.due("how many then", x.tried(1, 30), 3);
        x.nights(3);
        CHECKS.due("all", x.personIs(0, 0), 0b1110);
        CHECKS.due("nothing more", x.tried(5, 1), 0);
        CHECKS.due("b learnt nothing", x.personIs(1, 0), 0b1110);
    }

    private static void draws() {
        TalkingPlots x = new TalkingPlots();
        x.person(0, 0, 50);
        x.person(1, 1, 50);
        Checks.burials(x, "a@0,0;b@0,1");
        Checks.law(x, "e1(p=0);h2(1=1)");
        CHECKS.due("2 is not below 2", x.tried(1, 1), 0);
        Checks.law(x, "e1(p=0);h3(1=1)");
        CHECKS.due("2 is below 3", x.tried(1, 1), 1);
        Checks.law(x, "e1(p=0)");
        x.nights(1);
        CHECKS.due("drawn without h, too", x.count(6), 39022);
        x.nights(1);
        CHECKS.due("drawn again", x.count(6), 61087);
        CHECKS.due("seed(65535)", x.seed(65535), true);
        CHECKS.due("X is it", x.count(6), 65535);
        x.nights(1);
        CHECKS.due("drawn from it", x.count(6), 54212);
        CHECKS.due("seed(-1)", x.seed(-1), false);
        CHECKS.due("seed(65536)", x.seed(65536), false);
        CHECKS.due("X stays", x.count(6), 54212);
        CHECKS.due("seed(0)", x.seed(0), true);
        x.nights(1);
        CHECKS.due("drawn from 0", x.count(6), 13849);
    }

    private static void moods() {
        TalkingPlots x = new TalkingPlots();
        x.person(0, 0, 95);
        x.person(1, 0, 5);
        Checks.burials(x, "a@0,0;b@9,5");
        Checks.law(x, "g10(1=1)");
        CHECKS.due("99 at most", x.tried(1, 10), 99);
        Checks.law(x, "b10(1=1)");
        CHECKS.due("0 at least", x.tried(1, 11), 0);
        Checks.law(x, "g10(1=1);b3(1=1)");
        CHECKS.due("more and less together", x.tried(1, 11), 12);
        Checks.law(x, "g10(m<50);b3(m<10)");
        CHECKS.due("both asked ahead", x.tried(1, 11), 12);
        Checks.law(x, "g10(1=1);b6(1=1)");
        CHECKS.due("the bounds are for both together", x.tried(1, 10), 99);
        Checks.law(x, "g10(1=1);b12(1=1)");
        CHECKS.due("and there, too", x.tried(1, 11), 3);
        Checks.law(x, "b5(1=1);g20(1=1);q(m>90)");
        CHECKS.due("one who keeps silent stays as he is", x.tried(1, 10), 95);
        Checks.law(x, "b5(m<6);g20(m=0)");
        CHECKS.due("one with none stays so", x.tried(9, 11), 0);
    }

    private static void tried() {
        TalkingPlots x = new TalkingPlots();
        x.person(0, 1, 50);
        x.person(15, 2, 50);
        Checks.burials(x, "a@0,0;p@0,1");
        Checks.law(x, "e1(1=1);h10(1=1);b1(1=1)");
        CHECKS.due("talks", x.tried(3, 0), 6);
        CHECKS.due("learnt", x.tried(3, 1), 2);
        CHECKS.due("mood of p", x.tried(3, 25), 47);
        CHECKS.due("topics of p", x.tried(3, 45), 2);
        CHECKS.due("none has 0", x.tried(49, 2), 0);
        CHECKS.due("in the end a alone talks", x.tried(240, 0), 99);
        CHECKS.due("both have 0", x.tried(50, 2), 2);
        for (int what : new int[] {-1, 3, 9, 11, 24, 26, 29, 31, 44, 46, 100, Integer.MAX_VALUE, Integer.MIN_VALUE}) {
            CHECKS.due("tried(1, " + what + ")", x.tried(1, what), -1);
        }
        CHECKS.due("no night went by", x.count(0), 0);
        CHECKS.due("nothing was drawn", x.count(6), 1);
        CHECKS.due("moods are as they were", x.count(7), 100);
        CHECKS.due("topics are as they were", x.personIs(0, 0), 1);
        CHECKS.due("the same NIGHTS then come", x.nights(3), 6);
        CHECKS.due("as was tried", x.personIs(15, 1), 47);
    }

    private static void lastNight() {
        TalkingPlots x = new TalkingPlots();
        x.person(0, 1, 50);
        x.person(1, 1, 50);
        Checks.burials(x, "a@0,0;b@0,1");
        for (int i = 0; i < 41; i++) {
            x.nights(240);
        }
        x.nights(150);
        CHECKS.due("nine are left", x.count(0), 9990);
        Checks.law(x, "e1(1=1);g1(t=98);b1(t=99)");
        CHECKS.due("nine are tried", x.tried(240, 0), 18);
        CHECKS.due("nine go by", x.nights(240), 18);
        CHECKS.due("the last", x.count(0), 9999);
        CHECKS.due("the 9999th has t 98", x.count(7), 102);
        CHECKS.due("none goes by", x.nights(1), 0);
        CHECKS.due("none is tried", x.tried(1, 0), 0);
        CHECKS.due("none is tried of moods", x.tried(1, 10), 51);
        CHECKS.due("it stays", x.count(0), 9999);
        CHECKS.due("kept", x.keep(), 9999);
    }

    private static void keptAndUndone() {
        TalkingPlots x = new TalkingPlots();
        CHECKS.due("none was kept", x.undo(), false);
        x.person(0, 1, 50);
        x.person(1, 2, 50);
        Checks.burials(x, "a@0,0;b@0,1");
        Checks.law(x, "e1(1=1);h10(1=1);b1(1=1)");
        Checks.wishes(x, "a+b");
        x.nights(1);
        CHECKS.due("keep()", x.keep(), 1);
        int drawn = x.count(6);
        x.nights(5);
        x.person(2, 0, 9);
        Checks.burials(x, "a@5,5;b!;a+K");
        Checks.wishes(x, "a-b;b-a");
        Checks.law(x, "q(1=1)");
        Checks.feed(x, "abc");
        CHECKS.due("undo()", x.undo(), true);
        CHECKS.due("THE NIGHT", x.count(0), 1);
        CHECKS.due("X", x.count(6), drawn);
        CHECKS.due("told", x.count(1), 3);
        CHECKS.due("a lies", x.count(20), 0);
        CHECKS.due("b lies", x.count(30), 1);
        CHECKS.due("nobody lies elsewhere", x.count(75), -2);
        CHECKS.due("topics", x.personIs(0, 0), 3);
        CHECKS.due("moods", x.count(7), 98);
        CHECKS.due("WISHES are not kept", x.count(3), 2);
        CHECKS.due("THE LAW is not kept", x.count(4), 1);
        CHECKS.due("the tape is not kept", x.count(5), 20);
        x.person(0, 0, 0);
        CHECKS.due("undo() again", x.undo(), true);
        CHECKS.due("moods again", x.count(7), 98);
        x.person(0, 0, 0);
        CHECKS.due("keep() again", x.keep(), 1);
        x.person(0, 5, 5);
        x.undo();
        CHECKS.due("as it was kept last", x.personIs(0, 0), 0);
    }
}
