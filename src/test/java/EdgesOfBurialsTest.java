import java.io.IOException;

/** THE YARD, PEOPLE and BURIALS: the boundary cases, sentence by sentence. */
public final class EdgesOfBurialsTest {
    private static Sentences doc;

    public static void main(String[] args) throws IOException {
        doc = new Sentences();
        plots();
        next();
        people();
        topicsAndMoods();
        nobodyOnAnothers();
        besideAndShared();
        below0();
        bytes();
        lines();
        lays();
        takesUp();
        exchanges();
        topics();
        cannotStand();
        firstFromTheLeft();
        yAbove5();
        aLineTooMany();
        notTold();
        anotherLies();
        nothingIsDone();
        promise();
        doc.end();
    }

    private static void plots() {
        doc.says("PLOTS, X 0 to 9, Y 0 to 5;");
        TalkingPlots x = Sentences.with(1);
        for (int plot = 0; plot < 60; plot++) {
            doc.burials(x, "a@" + plot % 10 + "," + plot / 10, 1);
            doc.due("his PLOT " + plot, x.personIs(0, 2), plot);
            doc.due("who lies on " + plot, x.count(20 + plot), 0);
        }
        doc.due("no PLOT ahead of the first", x.count(19), -1);
        doc.due("no PLOT behind the last", x.count(80), -1);
    }

    private static void next() {
        doc.says("NEXT are PLOTS up, down, left, right.");
        for (int one = 0; one < 60; one++) {
            TalkingPlots x = Sentences.laid("a@" + one % 10 + "," + one / 10, 1, 1);
            for (int other = 0; other < 60; other++) {
                if (other != one) {
                    Checks.burials(x, "b@" + other % 10 + "," + other / 10);
                    int far = Math.abs(one % 10 - other % 10) + Math.abs(one / 10 - other / 10);
                    doc.due("BESIDE " + one + " on " + other, x.personIs(0, 3), far == 1 ? 2 : 0);
                    doc.due("and back", x.personIs(1, 3), far == 1 ? 1 : 0);
                }
            }
        }
    }

    private static void people() {
        doc.says("PEOPLE a to p (0 to 15): told or not");
        TalkingPlots x = new TalkingPlots();
        doc.due("person(-1, 0, 0)", x.person(-1, 0, 0), false);
        doc.due("person(16, 0, 0)", x.person(16, 0, 0), false);
        for (int p = 0; p < 16; p++) {
            doc.burials(x, (char) ('a' + p) + "!", -7000);
            doc.due("person(" + p + ", 0, 0)", x.person(p, 0, 0), true);
            doc.burials(x, (char) ('a' + p) + "!", 1);
            doc.due("told", x.count(1), (2 << p) - 1);
        }
        doc.burials(x, "`!", -1000);
        doc.burials(x, "q!", -1000);
        doc.burials(x, "a=`", -1002);
        doc.burials(x, "a=q", -1002);
    }

    private static void topicsAndMoods() {
        doc.says("TOPICS (bits 0 to 15)");
        TalkingPlots x = new TalkingPlots();
        doc.due("none", x.person(0, 0, 50), true);
        doc.due("all", x.person(0, 65535, 50), true);
        doc.due("a 17th", x.person(0, 65536, 50), false);
        doc.due("below 0", x.person(0, -1, 50), false);
        doc.due("all stay", x.personIs(0, 0), 65535);
        doc.says("a MOOD (0 to 99)");
        doc.due("99", x.person(0, 1, 99), true);
        doc.due("100", x.person(0, 2, 100), false);
        doc.due("99 stays", x.personIs(0, 1), 99);
        doc.due("0", x.person(0, 3, 0), true);
        doc.due("-1", x.person(0, 4, -1), false);
        doc.due("0 stays", x.personIs(0, 1), 0);
    }

    private static void nobodyOnAnothers() {
        doc.says("laid on a PLOT or not; nobody on another one's.");
        TalkingPlots x = Sentences.with(1, 1);
        doc.due("not laid", x.personIs(0, 2), -2);
        doc.burials(x, "a@4,4", 1);
        doc.due("laid", x.personIs(0, 2), 44);
        doc.burials(x, "b@4,4", -8002);
        doc.due("a lies there", x.count(64), 0);
        doc.due("b is not laid", x.personIs(1, 2), -2);
    }

    private static void besideAndShared() {
        doc.says("BESIDE are PEOPLE laid on PLOTS that are NEXT.");
        TalkingPlots x = Sentences.with(3, 6);
        doc.due("not laid", x.personIs(0, 3), 0);
        Checks.burials(x, "a@0,0");
        doc.due("the other one is not laid", x.personIs(0, 3), 0);
        doc.due("nor he himself", x.personIs(1, 3), 0);
        Checks.burials(x, "b@0,1");
        doc.due("both are laid", x.personIs(0, 3), 2);
        doc.says("SHARED by two are TOPICS that both have.");
        Checks.law(x, "e1(p=0);gs(p=0)");
        doc.due("one", x.tried(1, 10), 51);
        Checks.burials(x, "b-B");
        doc.due("none", x.tried(1, 10), 50);
        Checks.burials(x, "b+A;b+B");
        doc.due("two", x.tried(1, 10), 52);
    }

    private static void below0() {
        doc.says("TALK of two: three times how many TOPICS are SHARED, less how many but one of them has (below 0, too).");
        TalkingPlots x = Sentences.with(0, 0, 65535, 65535, 3, 5, 1, 14);
        doc.due("nothing at all", x.talk(0, 1), 0);
        doc.due("the least", x.talk(0, 2), -16);
        doc.due("the most", x.talk(2, 3), 48);
        doc.due("one SHARED, two not", x.talk(4, 5), 1);
        doc.due("none SHARED, four not", x.talk(6, 7), -4);
        doc.due("either way", x.talk(7, 6), -4);
        x.person(8, 7, 1);
        x.person(9, 57, 1);
        doc.due("one SHARED, five not", x.talk(8, 9), -2);
        doc.due("one SHARED, four not", x.talk(4, 9), -1);
        doc.due("one SHARED, three not", x.talk(6, 9), 0);
        doc.says("THE NIGHT (0 at first).");
        doc.due("count(0)", new TalkingPlots().count(0), 0);
    }

    private static void bytes() {
        doc.says("BURIALS: a TEXT of at most 120 bytes");
        TalkingPlots x = Sentences.with(1);
        String longest = Checks.again("a@0,0", ";", 20);
        doc.due("the longest right one", longest.length(), 119);
        doc.burials(x, longest, 20);
        doc.burials(x, longest + ";", -1120);
        Checks.feed(x, longest + ";a");
        doc.due("121", x.burials(121), -1);
        doc.due("the tape stays", x.count(5), 140);
        doc.says("BURIALS: a TEXT of at most 120 bytes, no blanks");
        doc.noBlanks("a@1,2;b=a;a+C;b!", t -> Checks.burials(Sentences.with(1, 2), t));
    }

    private static void lines() {
        doc.says("no blanks: LINES with a ; (59) between two (20 at most)");
        TalkingPlots x = Sentences.with(1);
        doc.burials(x, "a!", 1);
        doc.burials(x, "a!;a!", 2);
        doc.burials(x, "a!:a!", -1002);
        doc.burials(x, "a!<a!", -1002);
        doc.burials(x, "a!a!", -1002);
        doc.burials(x, "a!;;a!", -1003);
        doc.burials(x, ";a!", -1000);
        doc.burials(x, "a!;", -1003);
        doc.burials(x, Checks.again("a!", ";", 19), 19);
        doc.burials(x, Checks.again("a!", ";", 20), 20);
        doc.burials(x, Checks.again("a!", ";", 21), -4060);
    }

    private static void lays() {
        doc.says("a letter a to p, then @ X , Y (a digit each: he is laid there, in place of where he was)");
        TalkingPlots x = Sentences.with(1);
        doc.burials(x, "a@/,0", -1002);
        doc.burials(x, "a@:,0", -1002);
        doc.burials(x, "a@0,/", -1004);
        doc.burials(x, "a@0,:", -1004);
        doc.burials(x, "a@0+0", -1003);
        doc.burials(x, "a@0-0", -1003);
        doc.burials(x, "a@10,0", -1003);
        doc.burials(x, "a@0,10", -1005);
        doc.burials(x, "a@,0", -1002);
        doc.burials(x, "a?0,0", -1001);
        doc.burials(x, "aA0,0", -1001);
        doc.burials(x, "a@0,0", 1);
        doc.burials(x, "a@9,5", 1);
        doc.due("there", x.count(79), 0);
        doc.due("not where he was", x.count(20), -2);
        doc.due("one is laid", x.count(2), 1);
    }

    private static void takesUp() {
        doc.says("or ! (he is taken up, if he is laid)");
        TalkingPlots x = Sentences.laid("a@3,3", 1);
        doc.burials(x, "a!", 1);
        doc.due("not laid", x.personIs(0, 2), -2);
        doc.due("nobody there", x.count(53), -2);
        doc.burials(x, "a!", 1);
        doc.due("still not laid", x.personIs(0, 2), -2);
        doc.due("still told", x.count(1), 1);
    }

    private static void exchanges() {
        doc.says("or = and a letter a to p (both change PLOTS; one of them may have none)");
        TalkingPlots x = Sentences.laid("a@3,3;b@4,4", 1, 1, 1, 1);
        doc.burials(x, "a=b", 1);
        due(x, 44, 33, -2, -2);
        doc.burials(x, "a=c", 1);
        due(x, -2, 33, 44, -2);
        doc.burials(x, "a=c", 1);
        due(x, 44, 33, -2, -2);
        doc.burials(x, "a=a", 1);
        due(x, 44, 33, -2, -2);
        doc.burials(x, "c=d", 1);
        due(x, 44, 33, -2, -2);
        doc.burials(x, "a=b;b=c;c=d", 3);
        due(x, 33, -2, -2, 44);
    }

    private static void due(TalkingPlots x, int... plots) {
        for (int p = 0; p < plots.length; p++) {
            doc.due("PLOT of " + p, x.personIs(p, 2), plots[p]);
            doc.due("on PLOT " + plots[p], plots[p] < 0 ? p : x.count(20 + plots[p]), p);
        }
    }

    private static void topics() {
        doc.says("or + or - and a letter A to P (a TOPIC, 0 to 15, more or less)");
        TalkingPlots x = Sentences.with(0);
        for (int topic = 0; topic < 16; topic++) {
            char letter = (char) ('A' + topic);
            doc.burials(x, "a+" + letter, 1);
            doc.due("more by " + letter, x.personIs(0, 0), 1 << topic);
            doc.burials(x, "a+" + letter, 1);
            doc.due("he has it", x.personIs(0, 0), 1 << topic);
            doc.burials(x, "a-" + letter, 1);
            doc.due("less by " + letter, x.personIs(0, 0), 0);
            doc.burials(x, "a-" + letter, 1);
            doc.due("he has it not", x.personIs(0, 0), 0);
        }
        for (String wrong : new String[] {"a+@", "a+Q", "a+a", "a-@", "a-Q", "a-p", "a+0"}) {
            doc.burials(x, wrong, -1002);
        }
    }

    private static void cannotStand() {
        doc.says("FAULTS, the first from the left: 1 what can't stand there (the end, too); 3 Y above 5");
        doc.cutOff("a@1,2;b=a;a+C;b-D;b!", t -> Checks.burials(Sentences.with(1, 2), t));
        TalkingPlots x = Sentences.with(1, 1);
        for (int sign : new int[] {0, 1, 32, 33, 59, 64, 65, 96, 113, 127, 128, 225, 255}) {
            doc.due("at the letter: " + sign, Checks.burials(x, (char) sign + "!"), -1000);
        }
        for (int sign : new int[] {0, 32, 34, 42, 44, 46, 60, 62, 63, 65, 161, 171, 173, 189, 192, 255}) {
            doc.due("behind the letter: " + sign, Checks.burials(x, "a" + (char) sign + "A"), -1001);
        }
    }

    private static void firstFromTheLeft() {
        doc.says("FAULTS, the first from the left: 1 what can't stand there (the end, too); 3");
        TalkingPlots x = Sentences.with(1, 1);
        doc.burials(x, "a?;a@0,6;c!", -1001);
        doc.burials(x, "a@0,6;a?;c!", -3004);
        doc.burials(x, "c!;a@0,6;a?", -7000);
        doc.burials(x, "a@0,0;b@0,0;a?", -8008);
        doc.burials(x, "a!;?;" + Checks.again("a!", ";", 20), -1003);
    }

    private static void yAbove5() {
        doc.says("3 Y above 5, at it;");
        TalkingPlots x = Sentences.with(1);
        doc.burials(x, "a@9,5", 1);
        for (int y = 6; y <= 9; y++) {
            doc.burials(x, "a@9," + y, -3004);
            doc.burials(x, "a!;a@0," + y, -3007);
        }
        doc.due("he stays", x.personIs(0, 2), 59);
    }

    private static void aLineTooMany() {
        doc.says("4 a 21st LINE, at its letter (if that can stand there); 7");
        TalkingPlots x = Sentences.with(1);
        String twenty = Checks.again("a!", ";", 20);
        doc.burials(x, twenty + ";a", -4060);
        doc.burials(x, twenty + ";p", -4060);
        doc.burials(x, twenty + ";a?", -4060);
        doc.burials(x, twenty + ";q", -1060);
        doc.burials(x, twenty + ";`", -1060);
        doc.burials(x, twenty + ";;", -1060);
        doc.burials(x, twenty + ";", -1060);
        doc.burials(x, twenty + "a", -1059);
    }

    private static void notTold() {
        doc.says("7 one who is not told, at his letter (behind 4);");
        TalkingPlots x = Sentences.with(1, 1);
        for (String line : new String[] {"c", "c?", "c!", "c@0,0", "c@0,9", "c=a", "c=c", "c+A", "c-A"}) {
            doc.burials(x, line, -7000);
        }
        doc.burials(x, "a=c", -7002);
        doc.burials(x, "a=c?", -7002);
        doc.burials(x, "a!;c!", -7003);
        doc.burials(x, Checks.again("a!", ";", 19) + ";c!", -7057);
        doc.burials(x, Checks.again("a!", ";", 20) + ";c!", -4060);
    }

    private static void anotherLies() {
        doc.says("8 another one lies there, at X (asked behind Y; by LINES ahead, too).");
        TalkingPlots x = Sentences.laid("a@3,3", 1, 1, 1);
        doc.burials(x, "b@3,3", -8002);
        doc.burials(x, "b@3,3?", -8002);
        doc.burials(x, "b@3,", -1004);
        doc.burials(x, "b@3,x", -1004);
        doc.burials(x, "b@3,6", -3004);
        doc.burials(x, "a@3,3", 1);
        doc.burials(x, "b@4,4;c@4,4", -8008);
        doc.burials(x, "a@4,4;b@4,4", -8008);
        doc.burials(x, "b=a;a@3,3", -8006);
        doc.burials(x, "a@0,0;b@3,3", 2);
        doc.burials(x, "b!;c@3,3", 2);
        doc.burials(x, "b=c;b@3,3", 2);
        doc.due("b lies there", x.count(53), 1);
    }

    private static void nothingIsDone() {
        doc.says("Nothing is done by BURIALS with a FAULT.");
        String done = "a@5,5;b!;c+H;c-A;d=e;";
        for (String fault : new String[] {"", "a", "a@0,9", "f!", "c@5,5", "a=f", Checks.again("a!", ";", 16)}) {
            doc.changesNothing("burials of " + done + fault, EdgesOfBurialsTest::crowd,
                    x -> doc.due("a FAULT of " + done + fault, Checks.burials(x, done + fault) <= -1000, true));
        }
    }

    private static void crowd(TalkingPlots x) {
        for (int p = 0; p < 5; p++) {
            x.person(p, 3 << p, 10 + p);
        }
        Checks.burials(x, "a@0,0;b@1,0;c@1,1;d@2,1");
        Checks.law(x, "es+u(1=1);h7(1=1);b1(u>0)");
        Checks.wishes(x, "a+b;a-d;c#");
    }

    private static void promise() {
        doc.says("BURIALS by the first n bytes of the tape (1 to 120; empty then): how many LINES; a FAULT; NONE: as above.");
        TalkingPlots x = Sentences.with(1);
        for (int n : new int[] {Integer.MIN_VALUE, -1, 0, 1}) {
            doc.due("of an empty tape " + n, x.burials(n), -1);
        }
        Checks.feed(x, "a!;a!?");
        for (int n : new int[] {Integer.MIN_VALUE, -1, 0, 21, 120, 121, Integer.MAX_VALUE}) {
            doc.due("burials(" + n + ") of 20", x.burials(n), -1);
            doc.due("the tape stays", x.count(5), 20);
        }
        doc.due("the first five alone", x.burials(5), 2);
        doc.due("empty then", x.count(5), 0);
        Checks.feed(x, "a");
        doc.due("one byte", x.burials(1), -1001);
        doc.due("empty then, too", x.count(5), 0);
        Checks.feed(x, "a!;a!;a!;a!;a!;a!;a!");
        doc.due("all 20", x.burials(20), 7);
        for (int i = 0; i < 13; i++) {
            x.feed(0x613D613B, 0x613D613B, 0x613D613B, 0x613D613B, 0x613D613B);
        }
        doc.due("121 of 260", x.burials(121), -1);
        doc.due("the 260 stay", x.count(5), 260);
        doc.due("120 of 260", x.burials(120), -4080);
        doc.due("empty of all", x.count(5), 0);
    }
}
