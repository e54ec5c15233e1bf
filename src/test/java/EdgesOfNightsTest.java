import java.io.IOException;

/** NIGHTS, DRAWS, what is tried, KEPT and UNDONE: the boundary cases, sentence by sentence. */
public final class EdgesOfNightsTest {
    private static Sentences doc;

    public static void main(String[] args) throws IOException {
        doc = new Sentences();
        laidOnes();
        asItIsThen();
        moodAbove0();
        theOnesMoodAbove0();
        eAbove0();
        withNobody();
        learns();
        belowH();
        askedAhead();
        lastNight();
        draws();
        triedOnes();
        promiseOfNights();
        promiseOfTried();
        promiseOfSeed();
        keptOnes();
        promiseOfKeep();
        promiseOfUndo();
        doc.end();
    }

    private static void laidOnes() {
        doc.says("A NIGHT: each who is laid");
        TalkingPlots x = Sentences.laid("a@0,0", 1, 1);
        Checks.law(x, "e1(1=1);g5(1=1)");
        doc.due("nobody to talk with", x.tried(1, 0), 0);
        doc.due("a is laid", x.tried(1, 10), 55);
        doc.due("b is not", x.tried(1, 11), 50);
        Checks.burials(x, "a!");
        doc.due("nobody is laid", x.nights(3), 0);
        doc.due("no MOOD changed", x.count(7), 100);
        doc.due("the NIGHTS went by", x.count(0), 3);
    }

    private static void asItIsThen() {
        doc.says("each who is laid, by numbers, as it is then, if his MOOD is above 0 and q does not hold");
        TalkingPlots x = Sentences.laid("a@2,0;b@1,0;c@0,0", 0, 0, 1);
        Checks.law(x, "e1(u>0);h10(1=1)");
        doc.due("c tells b behind a", x.nights(1), 1);
        doc.due("a has nothing yet", x.personIs(0, 0), 0);
        doc.due("b has it", x.personIs(1, 0), 1);
        x = Sentences.laid("c@2,0;b@1,0;a@0,0", 1, 0, 0);
        Checks.law(x, "e1(u>0);h10(1=1)");
        doc.due("a tells b ahead of c", x.nights(1), 2);
        doc.due("c has it", x.personIs(2, 0), 1);
        x = Sentences.laid("a@0,0;b@1,0", 1, 1);
        Checks.law(x, "e1(1=1);b50(p=0)");
        doc.due("a falls silent ahead of b", x.tried(1, 0), 1);
        Checks.law(x, "e1(1=1);b50(p=1)");
        doc.due("b falls silent behind a", x.tried(1, 0), 2);
        Checks.law(x, "e1(1=1);g1(p=0);q(p=1)");
        doc.due("q holds for b", x.tried(1, 0), 1);
    }

    private static void moodAbove0() {
        doc.says("if his MOOD is above 0");
        TalkingPlots x = Sentences.with(1, 1);
        x.person(0, 1, 0);
        x.person(2, 1, 1);
        Checks.burials(x, "a@0,0;c@5,5");
        Checks.law(x, "g5(1=1)");
        doc.due("0 stays 0", x.tried(9, 10), 0);
        doc.due("1 gets more", x.tried(1, 12), 6);
        Checks.burials(x, "b@0,1");
        Checks.law(x, "e1(1=1)");
        doc.due("0 talks with nobody, nobody with him", x.tried(5, 0), 0);
        Checks.burials(x, "c@1,1");
        doc.due("b and c talk", x.tried(5, 0), 10);
    }

    private static void theOnesMoodAbove0() {
        doc.says("he talks with the one BESIDE him, whose MOOD is above 0, whom he likes most");
        TalkingPlots x = Sentences.laid("a@4,4", 1, 1, 1, 1, 1);
        x.person(1, 1, 0);
        x.person(2, 1, 1);
        Checks.burials(x, "b@4,3;c@3,4;d@5,4;e@5,5");
        Checks.law(x, "e10-k(p=0);gk(p=0);q(p>0)");
        doc.due("not b, who is silent, but c", x.tried(1, 10), 52);
        Checks.law(x, "ek(p=0);gk(p=0);q(p>0)");
        doc.due("not e, who is not BESIDE him, but d", x.tried(1, 10), 53);
    }

    private static void eAbove0() {
        doc.says("(e above 0; of like ones the lowest)");
        TalkingPlots x = Sentences.laid("a@4,4;b@4,5;c@3,4;d@5,4;e@4,3", 1, 1, 1, 1, 1);
        Checks.law(x, "e0(1=1)");
        doc.due("0", x.tried(1, 0), 0);
        Checks.law(x, "e1(p=0)");
        doc.due("1", x.tried(1, 0), 1);
        Checks.law(x, "e7(p=0);gk(p=0)");
        doc.due("all alike", x.tried(1, 10), 51);
        Checks.law(x, "e6(k=1);e7(p=0);gk(p=0)");
        doc.due("three alike", x.tried(1, 10), 52);
        Checks.law(x, "e8(k=4);e7(p=0);gk(p=0)");
        doc.due("the highest alone", x.tried(1, 10), 54);
    }

    private static int mood(int mood, String law) {
        TalkingPlots x = new TalkingPlots();
        x.person(0, 0, mood);
        Checks.burials(x, "a@0,0");
        doc.due("right: " + law, Checks.law(x, law) > 0, true);
        return x.tried(1, 10);
    }

    private static void withNobody() {
        doc.says("With nobody: MOOD is more by g, less by b (0 to 99; both asked ahead).");
        doc.due("to 99", mood(98, "g1(1=1)"), 99);
        doc.due("not to 100", mood(98, "g2(1=1)"), 99);
        doc.due("by 99", mood(98, "g99(1=1)"), 99);
        doc.due("to 0", mood(2, "b2(1=1)"), 0);
        doc.due("not below 0", mood(2, "b3(1=1)"), 0);
        doc.due("by 99 less", mood(2, "b99(1=1)"), 0);
        doc.due("more and less", mood(50, "g30(1=1);b20(1=1)"), 60);
        doc.due("b by the MOOD ahead", mood(50, "g30(1=1);b20(m=50)"), 60);
        doc.due("g by the MOOD ahead", mood(50, "b20(1=1);g30(m=50)"), 60);
        TalkingPlots x = Sentences.laid("a@0,0", 1);
        Checks.law(x, "g1(1=1)");
        x.nights(5);
        doc.due("nothing was drawn", x.count(6), 1);
    }

    private static void learns() {
        doc.says("he learns the lowest TOPIC that the other one has and he has not (if there is one)");
        TalkingPlots x = Sentences.laid("a@0,0;b@0,1", 0b0000000000000010, 0b1000000000000110);
        Checks.law(x, "e1(p=0);h10(1=1)");
        doc.due("one talk", x.nights(1), 1);
        doc.due("the lowest he has not", x.personIs(0, 0), 6);
        doc.due("another talk", x.nights(1), 1);
        doc.due("the highest", x.personIs(0, 0), 32774);
        doc.due("talk goes on", x.nights(1), 1);
        doc.due("nothing to learn", x.personIs(0, 0), 32774);
        doc.due("nothing learnt", x.tried(240, 1), 0);
        doc.due("the other one learns nothing", x.personIs(1, 0), 32774);
        x.person(1, 0, 50);
        Checks.burials(x, "b@0,1");
        doc.due("one who has none", x.tried(9, 1), 0);
        int drawn = x.count(6);
        x.nights(1);
        doc.due("a DRAW is made all the same", x.count(6), (25173L * drawn + 13849) % 65536);
    }

    /** A seed whose DRAW is wanted. */
    private static int seedOf(int draw) {
        for (int seed = 0; seed < 65536; seed++) {
            if ((25173L * seed + 13849) % 65536 % 10 == draw) {
                return seed;
            }
        }
        return -1;
    }

    private static void belowH() {
        doc.says("With one: with a DRAW below h he learns");
        for (int draw = 0; draw < 10; draw++) {
            TalkingPlots x = Sentences.laid("a@0,0;b@0,1", 0, 1);
            x.seed(seedOf(draw));
            Checks.law(x, "e1(p=0);h" + draw + "(1=1)");
            doc.due(draw + " is not below " + draw, x.tried(1, 1), 0);
            Checks.law(x, "e1(p=0);h" + (draw + 1) + "(1=1)");
            doc.due(draw + " is below " + (draw + 1), x.tried(1, 1), 1);
        }
    }

    private static void askedAhead() {
        doc.says("then his MOOD is more by g, less by b (h, g, b asked ahead of the DRAW).");
        TalkingPlots x = Sentences.laid("a@0,0;b@0,1", 0, 3);
        Checks.law(x, "e1(p=0);h10(1=1);gu(p=0)");
        doc.due("g by what was unknown", x.tried(1, 10), 52);
        Checks.law(x, "e1(p=0);h10(1=1);bu+s(p=0)");
        doc.due("b by what was unknown", x.tried(1, 10), 48);
        Checks.law(x, "e1(p=0);h10(s=0);g9(s=0);b5(s=0)");
        doc.due("all by what was SHARED", x.tried(1, 10), 54);
        doc.due("and he learnt", x.tried(1, 30), 1);
        doc.due("but once", x.tried(2, 30), 1);
        Checks.law(x, "e1(p=0);g99(p=0)");
        doc.due("99 at most", x.tried(1, 10), 99);
        Checks.law(x, "e1(p=0);b99(p=0)");
        doc.due("0 at least", x.tried(1, 10), 0);
    }

    private static void lastNight() {
        doc.says("THE NIGHT is one more (9999 at most: then none goes by).");
        TalkingPlots x = Sentences.laid("a@0,0;b@0,1", 1, 1);
        doc.due("one", x.nights(1), 0);
        doc.due("one more", x.count(0), 1);
        for (int i = 0; i < 41; i++) {
            x.nights(240);
        }
        x.nights(157);
        doc.due("one is left", x.count(0), 9998);
        x.keep();
        Checks.law(x, "e1(1=1);g1(t=98);b1(t=99)");
        doc.due("one is tried", x.tried(1, 0), 2);
        doc.due("one of 240 is tried", x.tried(240, 0), 2);
        doc.due("one of 240 goes by", x.nights(240), 2);
        doc.due("9999", x.count(0), 9999);
        doc.due("t was 98", x.count(7), 102);
        int drawn = x.count(6);
        doc.due("none goes by", x.nights(1), 0);
        doc.due("none of 240 goes by", x.nights(240), 0);
        doc.due("9999 stays", x.count(0), 9999);
        doc.due("nothing was drawn", x.count(6), drawn);
        doc.due("no MOOD changed", x.count(7), 102);
        doc.due("none is tried", x.tried(240, 0), 0);
        doc.due("MOOD of none", x.tried(240, 10), 51);
        doc.due("keep()", x.keep(), 9999);
        doc.due("no such n", x.nights(0), -1);
    }

    private static void draws() {
        doc.says("DRAWS: X = (25173 X + 13849) modulo 65536 (X is THE SEED at first, 1): X modulo 10.");
        TalkingPlots x = Sentences.laid("a@0,0;b@0,1", 0, 1);
        doc.due("1 at first", x.count(6), 1);
        Checks.law(x, "e1(p=0)");
        long drawn = 1;
        for (int i = 0; i < 100; i++) {
            x.nights(1);
            drawn = (25173 * drawn + 13849) % 65536;
            doc.due("X behind " + i, x.count(6), drawn);
        }
        int[] seeds = {0, 1, 32767, 32768, 65534, 65535};
        int[] then = {13849, 39022, 21444, 46617, 29039, 54212};
        for (int i = 0; i < seeds.length; i++) {
            x.seed(seeds[i]);
            x.nights(1);
            doc.due("X behind the seed " + seeds[i], x.count(6), then[i]);
        }
        Checks.law(x, "e1(1=1)");
        x.seed(0);
        x.nights(2);
        drawn = 0;
        for (int i = 0; i < 4; i++) {
            drawn = (25173 * drawn + 13849) % 65536;
        }
        doc.due("two talks in each of two NIGHTS", x.count(6), drawn);
    }

    private static void crowd(TalkingPlots x) {
        for (int p = 0; p < 6; p++) {
            x.person(p, 5 << p & 255, 20 + 10 * p);
        }
        Checks.burials(x, "a@0,0;b@1,0;c@1,1;d@2,1;e@1,2");
        Checks.law(x, "es+u(1=1);h6(1=1);b3(u>0);g2(n>1)");
        Checks.wishes(x, "a+b;a-d;c#");
        x.nights(2);
        x.keep();
        x.nights(1);
        Checks.feed(x, "g9(1=1)");
    }

    private static void triedOnes() {
        doc.says("TRIED are n NIGHTS by the DRAWS that will come (nothing is changed).");
        for (int what : new int[] {0, 1, 2, 10, 15, 30, 35}) {
            doc.changesNothing("tried(50, " + what + ")", EdgesOfNightsTest::crowd, x -> x.tried(50, what));
        }
        TalkingPlots x = new TalkingPlots();
        crowd(x);
        for (int i = 0; i < 12; i++) {
            int talks = x.tried(1, 0);
            int mood = x.tried(1, 11);
            int topics = x.tried(1, 31);
            int zeros = x.tried(1, 2);
            int learnt = x.tried(1, 1) + allTopics(x);
            doc.due("talks that came", x.nights(1), talks);
            doc.due("MOOD that came", x.personIs(1, 1), mood);
            doc.due("TOPICS that came", Integer.bitCount(x.personIs(1, 0)), topics);
            doc.due("TOPICS learnt", allTopics(x), learnt);
            doc.due("laid ones with MOOD 0", zeros(x), zeros);
        }
    }

    private static int allTopics(TalkingPlots x) {
        int all = 0;
        for (int p = 0; p < 6; p++) {
            all += Integer.bitCount(x.personIs(p, 0));
        }
        return all;
    }

    private static int zeros(TalkingPlots x) {
        int all = 0;
        for (int p = 0; p < 6; p++) {
            all += x.personIs(p, 1) == 0 && x.personIs(p, 2) >= 0 ? 1 : 0;
        }
        return all;
    }

    private static void promiseOfNights() {
        doc.says("NIGHTS (1 to 240; as many as can) go by: how often one talked with another one; NONE: no such n.");
        TalkingPlots x = Sentences.laid("a@0,0;b@0,1", 1, 1);
        Checks.law(x, "e1(1=1)");
        for (int n : new int[] {Integer.MIN_VALUE, -1, 0, 241, Integer.MAX_VALUE}) {
            doc.due("nights(" + n + ")", x.nights(n), -1);
        }
        doc.due("none went by", x.count(0), 0);
        doc.due("one", x.nights(1), 2);
        doc.due("240", x.nights(240), 480);
        doc.due("THE NIGHT", x.count(0), 241);
    }

    private static void promiseOfTried() {
        doc.says("NIGHTS (1 to 240; as many as can) that are tried, what 0 how often one talks with another one, 1 TOPICS learnt,"
                + " 2 how many laid ones have MOOD 0 then, 10 + p MOOD, 30 + p how many TOPICS of told p then; NONE: no such ones.");
        TalkingPlots x = new TalkingPlots();
        x.person(0, 1, 50);
        x.person(15, 65534, 0);
        x.person(7, 3, 0);
        Checks.burials(x, "a@0,0;p@0,1");
        Checks.law(x, "e1(1=1);h10(1=1);g1(p=0)");
        for (int n : new int[] {Integer.MIN_VALUE, -1, 0, 241, Integer.MAX_VALUE}) {
            for (int what : new int[] {0, 1, 2, 10, 30}) {
                doc.due("tried(" + n + ", " + what + ")", x.tried(n, what), -1);
            }
        }
        int[] wrong = {Integer.MIN_VALUE, -10, -1, 3, 9, 11, 16, 18, 24, 26, 29, 31, 44, 46, 100, Integer.MAX_VALUE};
        for (int what : wrong) {
            doc.due("tried(1, " + what + ")", x.tried(1, what), -1);
        }
        doc.due("p is silent", x.tried(240, 0), 0);
        doc.due("nothing learnt", x.tried(240, 1), 0);
        doc.due("of two with 0 one is laid", x.tried(1, 2), 1);
        doc.due("MOOD of a, the first", x.tried(1, 10), 51);
        doc.due("MOOD of p, the last", x.tried(1, 25), 0);
        doc.due("MOOD of h, who is not laid", x.tried(1, 17), 0);
        doc.due("TOPICS of a, the first", x.tried(1, 30), 1);
        doc.due("TOPICS of p, the last", x.tried(1, 45), 15);
        doc.due("the 240th", x.tried(240, 10), 99);
        x.person(15, 65534, 1);
        Checks.burials(x, "p@0,1");
        doc.due("240 with two who talk", x.tried(240, 0), 480);
        doc.due("all learnt", x.tried(240, 1), 16);
        doc.due("15 learnt by a", x.tried(15, 30), 16);
        doc.due("14 learnt by a", x.tried(14, 30), 15);
    }

    private static void promiseOfSeed() {
        doc.says("THE SEED (0 to 65535; X, too): true; false: no such number.");
        TalkingPlots x = new TalkingPlots();
        for (int seed : new int[] {0, 1, 65535, 32768}) {
            doc.due("seed(" + seed + ")", x.seed(seed), true);
            doc.due("X", x.count(6), seed);
        }
        for (int seed : new int[] {Integer.MIN_VALUE, -1, 65536, Integer.MAX_VALUE}) {
            doc.due("seed(" + seed + ")", x.seed(seed), false);
            doc.due("X stays", x.count(6), 32768);
        }
    }

    private static void keptOnes() {
        doc.says("KEPT: PEOPLE, THE NIGHT, X; UNDONE: as they were KEPT last.");
        TalkingPlots x = new TalkingPlots();
        crowd(x);
        int[] before = seen(x);
        x.keep();
        x.nights(9);
        x.seed(7);
        x.person(0, 9, 9);
        x.person(15, 9, 9);
        x.burials(0);
        x.check(0);
        Checks.burials(x, "b!;c@9,5;d+P;d-A;e=a");
        Checks.wishes(x, "a#");
        Checks.law(x, "q(1=1);q(1=1)");
        Checks.feed(x, "abc");
        doc.due("undo()", x.undo(), true);
        int[] then = seen(x);
        for (int i = 0; i < before.length; i++) {
            doc.due("answer " + i, then[i], before[i]);
        }
        doc.due("WISHES stay as they are", x.count(3), 1);
        doc.due("RULES stay as they are", x.count(4), 2);
        doc.due("the tape stays as it is", x.count(5), 20);
    }

    private static int[] seen(TalkingPlots x) {
        int[] all = new int[48 + 60 + 5];
        for (int i = 0; i < 48; i++) {
            all[i] = x.personIs(i / 3, i % 3);
        }
        for (int i = 0; i < 60; i++) {
            all[48 + i] = x.count(20 + i);
        }
        int[] counts = {0, 1, 2, 6, 7};
        for (int i = 0; i < 5; i++) {
            all[108 + i] = x.count(counts[i]);
        }
        return all;
    }

    private static void promiseOfKeep() {
        doc.says("KEPT: THE NIGHT.");
        TalkingPlots x = new TalkingPlots();
        doc.due("at first", x.keep(), 0);
        x.nights(240);
        doc.due("behind 240", x.keep(), 240);
        x.nights(1);
        doc.due("UNDONE", x.undo(), true);
        doc.due("THE NIGHT then", x.keep(), 240);
    }

    private static void promiseOfUndo() {
        doc.says("UNDONE: true; false: none was KEPT.");
        TalkingPlots x = Sentences.laid("a@3,3", 1);
        doc.due("none was KEPT", x.undo(), false);
        doc.due("a stays", x.personIs(0, 2), 33);
        Checks.burials(x, "a@4,4");
        x.keep();
        Checks.burials(x, "a@5,5");
        x.keep();
        for (int i = 0; i < 3; i++) {
            Checks.burials(x, "a!");
            x.person(1, 1, 1);
            doc.due("undo() again", x.undo(), true);
            doc.due("as it was KEPT last", x.personIs(0, 2), 55);
            doc.due("b is not told", x.count(1), 1);
        }
        TalkingPlots empty = new TalkingPlots();
        empty.keep();
        empty.person(0, 1, 1);
        doc.due("nobody was KEPT", empty.undo(), true);
        doc.due("nobody is told", empty.count(1), 0);
    }
}
