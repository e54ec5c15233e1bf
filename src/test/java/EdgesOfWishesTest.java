import java.io.IOException;

/** WISHES, HOLD and the rows in which WISHES hold: the boundary cases, sentence by sentence. */
public final class EdgesOfWishesTest {
    private static Sentences doc;

    public static void main(String[] args) throws IOException {
        doc = new Sentences();
        bytes();
        noneAtFirst();
        lines();
        besideHim();
        notBesideHim();
        byTheWall();
        nobodyBesideHim();
        cannotStand();
        aLineTooMany();
        oneAndHimself();
        laidSo();
        notLaid();
        hold();
        namedAlone();
        inRows();
        promise();
        promiseOfHold();
        doc.end();
    }

    private static int read(String text) {
        return Checks.wishes(new TalkingPlots(), text);
    }

    private static void bytes() {
        doc.says("WISHES: a TEXT of at most 120 bytes");
        TalkingPlots x = new TalkingPlots();
        String longest = Checks.again("a+b", ";", 24);
        doc.due("the longest right one", longest.length(), 95);
        doc.wishes(x, longest, 24);
        doc.wishes(x, longest + ";" + Checks.again("a#", "", 12), -4096);
        doc.wishes(x, Checks.again("#", "", 120), -1000);
        Checks.feed(x, Checks.again("a#", "", 61));
        doc.due("121", x.wishes(121), -1);
        doc.due("the tape stays", x.count(5), 140);
        doc.says("WISHES: a TEXT of at most 120 bytes, no blanks");
        doc.noBlanks("a+b;c-d;e#;f.", EdgesOfWishesTest::read);
    }

    private static void noneAtFirst() {
        doc.says("no blanks (none at first): LINES");
        TalkingPlots x = Sentences.with(1, 1);
        doc.due("WISHES", x.count(3), 0);
        doc.due("that hold", x.hold(0), 0);
        doc.due("that do not", x.hold(1), -2);
        doc.due("rows in which all hold", x.row(3, 101), 2);
    }

    private static void lines() {
        doc.says("(none at first): LINES with a ; (59) between two (24 at most): a letter a to p, then + and a letter");
        doc.due("one", read("a#"), 1);
        doc.due("two", read("a#;p#"), 2);
        for (String wrong : new String[] {"a#:a#", "a#<a#", "a#a#", "a#,a#"}) {
            doc.due(wrong, read(wrong), -1002);
        }
        doc.due("nothing between two", read("a#;;a#"), -1003);
        doc.due("nothing ahead", read(";a#"), -1000);
        doc.due("nothing behind", read("a#;"), -1003);
        doc.due("23", read(Checks.again("a#", ";", 23)), 23);
        doc.due("24", read(Checks.again("a#", ";", 24)), 24);
        doc.due("25", read(Checks.again("a#", ";", 25)), -4072);
        for (char sign : new char[] {'`', 'q', 'A', '@', ' '}) {
            doc.due("no letter: " + sign, read(sign + "#"), -1000);
            doc.due("no second letter: " + sign, read("a+" + sign), -1002);
            doc.due("no second letter behind -: " + sign, read("a-" + sign), -1002);
        }
        doc.due("all letters", read("a+p;b+o;c+n;d+m;e+l;f+k;g+j;h+i;i+h;j+g;k+f;l+e;m+d;n+c;o+b;p+a"), 16);
    }

    private static void besideHim() {
        doc.says("+ and a letter (BESIDE him)");
        TalkingPlots x = Sentences.laid("a@4,3", 1, 1);
        doc.wishes(x, "a+b;b+a", 2);
        int[] holds = {34 - 10, 34 + 10, 34 - 1, 34 + 1};
        for (int plot = 0; plot < 60; plot++) {
            if (plot != 34) {
                boolean near = plot == holds[0] || plot == holds[1] || plot == holds[2] || plot == holds[3];
                Checks.burials(x, "b@" + plot % 10 + "," + plot / 10);
                doc.due("b on " + plot, x.hold(0), near ? 2 : 0);
            }
        }
        Checks.burials(x, "a@9,2;b@0,3");
        doc.due("not across the wall", x.hold(0), 0);
    }

    private static void notBesideHim() {
        doc.says("or - and a letter (not BESIDE him)");
        TalkingPlots x = Sentences.laid("a@4,3;b@5,3", 1, 1, 1);
        doc.wishes(x, "a-b;b-a", 2);
        doc.due("they are", x.hold(0), 0);
        Checks.burials(x, "b@5,4");
        doc.due("aslant is not BESIDE", x.hold(0), 2);
        Checks.burials(x, "b@6,3");
        doc.due("with a PLOT between", x.hold(0), 2);
        Checks.burials(x, "c@5,3");
        doc.due("with another one between", x.hold(0), 2);
    }

    private static void byTheWall() {
        doc.says("or # (35, by the wall: a PLOT with X 0, 9 or Y 0, 5)");
        TalkingPlots x = Sentences.with(1);
        doc.wishes(x, "a#", 1);
        for (int plot = 0; plot < 60; plot++) {
            int px = plot % 10;
            int py = plot / 10;
            Checks.burials(x, "a@" + px + "," + py);
            doc.due("on " + plot, x.hold(0), px == 0 || px == 9 || py == 0 || py == 5 ? 1 : 0);
        }
        doc.due("34", read("a" + (char) 34), -1001);
        doc.due("36", read("a" + (char) 36), -1001);
    }

    private static void nobodyBesideHim() {
        doc.says("or . (46, nobody BESIDE him)");
        TalkingPlots x = Sentences.laid("a@4,3;b@6,3", 1, 1);
        doc.wishes(x, "a.", 1);
        doc.due("nobody", x.hold(0), 1);
        for (String near : new String[] {"b@5,3", "b@3,3", "b@4,2", "b@4,4"}) {
            Checks.burials(x, near);
            doc.due("somebody: " + near, x.hold(0), 0);
        }
        for (String far : new String[] {"b@5,4", "b@3,4", "b@5,2", "b@3,2", "b!"}) {
            Checks.burials(x, far);
            doc.due("nobody: " + far, x.hold(0), 1);
        }
        doc.due("47", read("a/"), -1001);
        doc.due("44", read("a,"), -1001);
    }

    private static void cannotStand() {
        doc.says("nobody BESIDE him). FAULTS: 1 what can't stand there (the end, too)");
        doc.cutOff("a+b;c-d;e#;f.", EdgesOfWishesTest::read);
        for (int sign : new int[] {0, 32, 34, 36, 42, 44, 47, 59, 97, 163, 171, 173, 174, 255}) {
            doc.due("behind the letter: " + sign, read("a" + (char) sign), -1001);
        }
        doc.due("behind #", read("a#b"), -1002);
        doc.due("behind .", read("a.b"), -1002);
        doc.due("behind +", read("a+bc"), -1003);
        doc.due("the first from the left", read("a+b;c;d+d"), -1005);
    }

    private static void aLineTooMany() {
        doc.says("4 a 25th LINE, at its letter (if that can stand there)");
        String many = Checks.again("a.", ";", 24);
        doc.due("its letter", read(many + ";a"), -4072);
        doc.due("what is behind it", read(many + ";a+a"), -4072);
        doc.due("the last letter", read(many + ";p."), -4072);
        doc.due("no letter", read(many + ";q."), -1072);
        doc.due("no letter, either", read(many + ";`."), -1072);
        doc.due("the end", read(many + ";"), -1072);
        doc.due("no ;", read(many + "a"), -1071);
    }

    private static void oneAndHimself() {
        doc.says("6 one and himself, at the second letter.");
        for (int p = 0; p < 16; p++) {
            char one = (char) ('a' + p);
            doc.due("+ " + one, read(one + "+" + one), -6002);
            doc.due("- " + one, read(one + "-" + one), -6002);
        }
        doc.due("further on", read("a+b;c-c"), -6006);
        doc.due("ahead of another FAULT", read("c-c?"), -6002);
        doc.due("behind another FAULT", read("a?;c-c"), -1001);
    }

    private static void laidSo() {
        doc.says("A WISH holds if all it names are laid so");
        TalkingPlots x = Sentences.with(1, 1);
        doc.wishes(x, "a+b;a#;a.", 3);
        doc.due("nobody is laid", x.hold(0), 0);
        Checks.burials(x, "b@0,0");
        doc.due("the other one is laid", x.hold(0), 0);
        Checks.burials(x, "b!;a@0,0");
        doc.due("he is laid", x.hold(0), 2);
        Checks.burials(x, "b@0,1");
        doc.due("both are laid", x.hold(0), 2);
        doc.wishes(x, "c+d;c#;c.", 3);
        doc.due("of those not told", x.hold(0), 0);
    }

    private static void notLaid() {
        doc.says("(- holds, too, if one is not laid)");
        TalkingPlots x = Sentences.with(1, 1);
        doc.wishes(x, "a-b;b-a;a-c;d-e", 4);
        doc.due("nobody is laid", x.hold(0), 4);
        Checks.burials(x, "a@0,0");
        doc.due("he is laid", x.hold(0), 4);
        Checks.burials(x, "b@0,1");
        doc.due("both are laid", x.hold(0), 2);
        Checks.burials(x, "a!");
        doc.due("the other one is laid", x.hold(0), 4);
    }

    private static void hold() {
        doc.says("HOLD: how many WISHES do; the first that does not.");
        TalkingPlots x = Sentences.laid("a@0,0", 1);
        String[] texts = {"a#", "b#", "a#;b#;a#", "b#;a#", "a#;a#;a#", "a#;b#;c#"};
        int[] many = {1, 0, 2, 1, 3, 1};
        int[] first = {-2, 0, 1, 0, -2, 1};
        for (int i = 0; i < texts.length; i++) {
            doc.wishes(x, texts[i], 1 + texts[i].length() / 3);
            doc.due("how many of " + texts[i], x.hold(0), many[i]);
            doc.due("the first of " + texts[i], x.hold(1), first[i]);
        }
        doc.wishes(x, Checks.again("a#", ";", 23) + ";b#", 24);
        doc.due("23 of 24", x.hold(0), 23);
        doc.due("the 24th does not", x.hold(1), 23);
    }

    private static void namedAlone() {
        doc.says("in how many rows all WISHES that name them alone hold");
        TalkingPlots x = Sentences.with(1, 1, 1);
        doc.wishes(x, "c#;c.;a-c;c-a;c+b;b+d;p.", 7);
        doc.due("none of them names a and b alone", x.row(3, 101), 2);
        doc.wishes(x, "c#;a-b", 2);
        doc.due("one of them does", x.row(3, 101), 0);
        doc.due("c at an end leaves a and b neighbours", x.row(7, 101), 0);
        doc.wishes(x, "c#;b-c", 2);
        doc.due("a and b may stand as they like", x.row(3, 101), 2);
        doc.due("b and c at the ends", x.row(7, 101), 2);
    }

    private static void inRows() {
        doc.says("(+ neighbours, - not neighbours, # at one of both ends, . never)");
        TalkingPlots x = Sentences.with(1, 1, 1, 1, 1, 1, 1);
        int[][] rows = {{2, 2, 0, 2, 0}, {6, 4, 2, 4, 0}, {24, 12, 12, 12, 0},
            {120, 48, 72, 48, 0}, {720, 240, 480, 240, 0}, {5040, 1440, 3600, 1440, 0}};
        String[] texts = {"p#", "a+b", "b-a", "a#", "a."};
        for (int text = 0; text < texts.length; text++) {
            doc.wishes(x, texts[text], 1);
            for (int size = 2; size <= 7; size++) {
                doc.due(size + " by " + texts[text], x.row((1 << size) - 1, 101), rows[size - 2][text]);
            }
        }
        doc.wishes(x, "a#;b#;c#", 3);
        doc.due("a third at an end of three", x.row(7, 101), 0);
        doc.due("two at the ends of two", x.row(3, 101), 2);
        doc.wishes(x, "a+b;a+c;a+d", 3);
        doc.due("a third neighbour", x.row(15, 101), 0);
        doc.due("a second neighbour", x.row(7, 101), 2);
        for (String text : new String[] {"c+a;c+b", "a+c;b+c", "a+c;c+b"}) {
            doc.wishes(x, text, 2);
            doc.due("c between a and b in four, by " + text, x.row(15, 101), 4);
        }
        for (String text : new String[] {"a-b;a-c", "b-a;c-a", "a-b;c-a"}) {
            doc.wishes(x, text, 2);
            doc.due("a at an end of four, d by him, by " + text, x.row(15, 101), 4);
        }
    }

    private static void promise() {
        doc.says("WISHES by the first n bytes of the tape (1 to 120; empty then), in place of those before:"
                + " how many LINES; a FAULT; NONE: as above.");
        TalkingPlots x = new TalkingPlots();
        for (int n : new int[] {Integer.MIN_VALUE, -1, 0, 1}) {
            doc.due("of an empty tape " + n, x.wishes(n), -1);
        }
        Checks.feed(x, "a#;b#?");
        for (int n : new int[] {Integer.MIN_VALUE, -1, 0, 21, 120, 121, Integer.MAX_VALUE}) {
            doc.due("wishes(" + n + ") of 20", x.wishes(n), -1);
            doc.due("the tape stays", x.count(5), 20);
        }
        doc.due("the first five alone", x.wishes(5), 2);
        doc.due("empty then", x.count(5), 0);
        Checks.feed(x, "a");
        doc.due("one byte", x.wishes(1), -1001);
        doc.due("empty then, too", x.count(5), 0);
        doc.due("those before stay", x.count(3), 2);
        doc.wishes(x, "c.", 1);
        doc.due("in place of those before", x.count(3), 1);
        for (int i = 0; i < 13; i++) {
            x.feed(0x61236123, 0x61236123, 0x61236123, 0x61236123, 0x61236123);
        }
        doc.due("121 of 260", x.wishes(121), -1);
        doc.due("the 260 stay", x.count(5), 260);
        doc.due("120 of 260", x.wishes(120), -1002);
        doc.due("empty of all", x.count(5), 0);
        doc.due("and those before stay", x.count(3), 1);
    }

    private static void promiseOfHold() {
        doc.says("HOLD, what 0 how many, 1 the first that does not (0 on; -2: all do); NONE: no such what.");
        TalkingPlots x = Sentences.with(1);
        doc.wishes(x, "a#", 1);
        doc.due("0 on", x.hold(1), 0);
        Checks.burials(x, "a@0,3");
        doc.due("all do", x.hold(1), -2);
        for (int what : new int[] {Integer.MIN_VALUE, -1, 2, 100, Integer.MAX_VALUE}) {
            doc.due("hold(" + what + ")", x.hold(what), -1);
        }
    }
}
