import java.io.IOException;

/** THE LAW: the boundary cases, sentence by sentence. */
public final class EdgesOfLawTest {
    private static final String ALWAYS = "(1=1)";
    private static Sentences doc;

    public static void main(String[] args) throws IOException {
        doc = new Sentences();
        bytes();
        noneAtFirst();
        rules();
        ofQOnly();
        boundOfE();
        boundOfH();
        boundOfG();
        boundOfB();
        silence();
        firstRule();
        parts();
        manyTests();
        tests();
        fromTheLeft();
        numbers();
        lettersOfHim();
        lettersOfTheOther();
        nightModulo100();
        nobodyAndQ();
        bits32();
        refused();
        asMuchAsMatters();
        cannotStand();
        sixthDigit();
        aRuleTooMany();
        seventhOpen();
        theRulesOwn();
        openTillItsTestEnds();
        aheadOfIt();
        promise();
        doc.end();
    }

    private static int read(String text) {
        return Checks.law(new TalkingPlots(), text);
    }

    /** d lies alone, has MOOD 1, and gets more by g: by how much. */
    private static int more(String text) {
        TalkingPlots x = new TalkingPlots();
        x.person(3, 21, 1);
        Checks.burials(x, "d@5,3");
        doc.due("right: " + text, Checks.law(x, text) > 0, true);
        return x.tried(1, 13) - 1;
    }

    private static void moreDue(String text, int want) {
        doc.due("more by " + text, more(text), want);
    }

    private static void holds(String condition, boolean want) {
        doc.due("holds: " + condition, more("g1(" + condition + ")"), want ? 1 : 0);
    }

    private static void comesTo(String sum, int want) {
        holds(sum + "=" + (want < 0 ? "0-" + -want : "" + want), true);
    }

    private static void bytes() {
        doc.says("THE LAW: a TEXT of at most 240 bytes");
        TalkingPlots x = new TalkingPlots();
        String longest = "g10" + Checks.again("+1", "", 116) + ALWAYS;
        doc.due("its bytes", longest.length(), 240);
        doc.law(x, longest, 1);
        Checks.feed(x, "g10" + Checks.again("+1", "", 115) + "+10" + ALWAYS);
        doc.due("241", x.law(241), -1);
        doc.due("the tape stays", x.count(5), 260);
        doc.due("cut off at 240", x.law(240), -1240);
        doc.says("THE LAW: a TEXT of at most 240 bytes, no blanks");
        doc.noBlanks("es+12*[u-k]/3%4(!(1=1&p<2)|m>o);q(n=t)", EdgesOfLawTest::read);
    }

    private static void noneAtFirst() {
        doc.says("no blanks (none at first): RULES");
        TalkingPlots x = Sentences.laid("a@0,0;b@0,1", 1, 3);
        doc.due("RULES", x.count(4), 0);
        doc.due("nobody talks", x.nights(240), 0);
        doc.due("nothing was drawn", x.count(6), 1);
        doc.due("no MOOD changed", x.count(7), 100);
    }

    private static void rules() {
        doc.says("RULES (16 at most) with a ; (59) between two");
        doc.due("one", read("q" + ALWAYS), 1);
        doc.due("15", read(Checks.again("q" + ALWAYS, ";", 15)), 15);
        doc.due("16", read(Checks.again("q" + ALWAYS, ";", 16)), 16);
        doc.due("17", read(Checks.again("q" + ALWAYS, ";", 17)), -4112);
        for (String between : new String[] {":", "<", ",", ""}) {
            doc.due("between: " + between, read("q(1=1)" + between + "q(1=1)"), -1006);
        }
        doc.due("nothing between two", read("q(1=1);;q(1=1)"), -1007);
        doc.due("nothing ahead", read(";q(1=1)"), -1000);
        doc.due("nothing behind", read("q(1=1);"), -1007);
    }

    private static void ofQOnly() {
        doc.says("a letter, E, and (C), of q only (C)");
        for (char letter : new char[] {'e', 'h', 'g', 'b'}) {
            doc.due(letter + " with E", read(letter + "1" + ALWAYS), 1);
            doc.due(letter + " without E", read(letter + ALWAYS), -1001);
            doc.due(letter + " without C", read(letter + "1"), -1002);
        }
        doc.due("q", read("q" + ALWAYS), 1);
        doc.due("q with E", read("q1" + ALWAYS), -1001);
        for (char letter : new char[] {'a', 'c', 'd', 'f', 'i', 'p', 'r', 'E', 'Q', '1', '(', ' '}) {
            doc.due("no RULE: " + letter, read(letter + "1" + ALWAYS), -1000);
        }
    }

    /** a between b and c, each with MOOD 50: whom a talks with, by the MOOD that he gets more by. */
    private static int likes(String text) {
        TalkingPlots x = Sentences.laid("a@1,1;b@0,1;c@2,1", 1, 1, 1);
        doc.due("right: " + text, Checks.law(x, text + ";gk(p=0);b9(1=1)") > 0, true);
        return x.tried(1, 10) + 9 - 50;
    }

    private static void boundOfE() {
        doc.says("e how one likes to talk with another one (0 to 9999)");
        doc.due("9999 is more than 9998", likes("e9998(k=1);e9999(k=2)"), 2);
        doc.due("10000 is as 9999", likes("e9999(k=1);e10000(k=2)"), 1);
        doc.due("99999*99 is as 9999", likes("e9999(k=1);e99999*99(k=2)"), 1);
        doc.due("1 is more than 0", likes("e0(k=1);e1(k=2)"), 2);
        doc.due("0 is nobody", likes("e0(1=1)"), 0);
        doc.due("below 0 is nobody", likes("e0-1(1=1)"), 0);
        doc.due("far below 0 is nobody", likes("e0-99999(1=1)"), 0);
    }

    private static void boundOfH() {
        doc.says("h tenths that he learns (0 to 10)");
        int[] none = {0, -1, -10, -99999};
        int[] all = {10, 11, 99999};
        for (int seed = 0; seed < 40; seed++) {
            for (int h : none) {
                doc.due("none by " + h, learns(seed, h), 0);
            }
            for (int h : all) {
                doc.due("all by " + h, learns(seed, h), 1);
            }
        }
    }

    private static int learns(int seed, int h) {
        TalkingPlots x = Sentences.laid("a@1,1;b@0,1", 0, 1);
        x.seed(seed);
        Checks.law(x, "e1(p=0);h" + (h < 0 ? "0-" + -h : "" + h) + ALWAYS);
        return x.tried(1, 1);
    }

    private static int moodThen(int mood, String text) {
        TalkingPlots x = new TalkingPlots();
        x.person(0, 1, mood);
        Checks.burials(x, "a@0,0");
        doc.due("right: " + text, Checks.law(x, text) > 0, true);
        return x.tried(1, 10);
    }

    private static void boundOfG() {
        doc.says("g by how much his MOOD is more (0 to 99)");
        doc.due("98", moodThen(50, "g98(1=1);b99(1=1)"), 49);
        doc.due("99", moodThen(50, "g99(1=1);b99(1=1)"), 50);
        doc.due("100", moodThen(50, "g100(1=1);b99(1=1)"), 50);
        doc.due("99999*9", moodThen(50, "g99999*9(1=1);b99(1=1)"), 50);
        doc.due("0", moodThen(50, "g0(1=1);b9(1=1)"), 41);
        doc.due("-1", moodThen(50, "g0-1(1=1);b9(1=1)"), 41);
    }

    private static void boundOfB() {
        doc.says("b by how much less (0 to 99)");
        doc.due("98", moodThen(50, "b98(1=1);g99(1=1)"), 51);
        doc.due("99", moodThen(50, "b99(1=1);g99(1=1)"), 50);
        doc.due("100", moodThen(50, "b100(1=1);g99(1=1)"), 50);
        doc.due("99999*9", moodThen(50, "b99999*9(1=1);g99(1=1)"), 50);
        doc.due("0", moodThen(50, "b0(1=1);g9(1=1)"), 59);
        doc.due("-1", moodThen(50, "b0-1(1=1);g9(1=1)"), 59);
    }

    private static void silence() {
        doc.says("q he keeps silent in a NIGHT (any will do; without a q in THE LAW nobody does by it)");
        moreDue("g5(1=1)", 5);
        moreDue("q(1=2);g5(1=1)", 5);
        moreDue("q(1=1);g5(1=1)", 0);
        moreDue("g5(1=1);q(1=1)", 0);
        moreDue("q(1=2);g5(1=1);q(1=1)", 0);
        moreDue("q(1=1);g5(1=1);q(1=2)", 0);
        moreDue("q(1=2);q(2=1);g5(1=1)", 5);
        moreDue("q(1/0=1);q(1=1);g5(1=1)", 0);
    }

    private static void firstRule() {
        doc.says("of the first RULE of e, h, g, b whose C holds the E (beyond its bounds the bound; none: 0)");
        moreDue("g5(1=2);g6(1=1);g7(1=1)", 6);
        moreDue("g5(1=2);g6(2=1)", 0);
        moreDue("g5-9(1=1);g6(1=1)", 0);
        moreDue("g500(1=1);g6(1=1)", 98);
        moreDue("b3(1=1);e5(1=1);h6(1=1)", -1);
        doc.due("b", moodThen(50, "b5(1=2);b6(1=1);b7(1=1)"), 44);
        doc.due("b, none", moodThen(50, "b5(1=2);b6(2=1)"), 50);
        doc.due("e", likes("e1(k=1);e5(k=2);e9(k=1)"), 2);
        doc.due("e, none", likes("e1(k=3);e5(k=4)"), 0);
        TalkingPlots x = Sentences.laid("a@1,1;b@0,1", 0, 1);
        Checks.law(x, "e1(p=0);h10(1=2);h0(1=1);h10(1=1)");
        doc.due("h", x.tried(9, 1), 0);
        Checks.law(x, "e1(p=0);h0(1=2);h10(1=1);h0(1=1)");
        doc.due("h, the second", x.tried(1, 1), 1);
        Checks.law(x, "e1(p=0);h10(1=2)");
        doc.due("h, none", x.tried(9, 1), 0);
    }

    private static void parts() {
        doc.says("C: PARTS with a | between two, one of which must hold; a PART: TESTS with an & between two, all of which must");
        String[] tests = {"1=2", "1=1"};
        for (int i = 0; i < 8; i++) {
            String a = tests[i & 1];
            String b = tests[i >> 1 & 1];
            String c = tests[i >> 2 & 1];
            boolean isA = (i & 1) == 1;
            boolean isB = (i & 2) == 2;
            boolean isC = (i & 4) == 4;
            holds(a, isA);
            holds(a + "|" + b, isA || isB);
            holds(a + "&" + b, isA && isB);
            holds(a + "|" + b + "|" + c, isA || isB || isC);
            holds(a + "&" + b + "&" + c, isA && isB && isC);
            holds(a + "|" + b + "&" + c, isA || isB && isC);
            holds(a + "&" + b + "|" + c, isA && isB || isC);
            holds("(" + a + "|" + b + ")&" + c, (isA || isB) && isC);
            holds(a + "&(" + b + "|" + c + ")", isA && (isB || isC));
        }
    }

    private static void manyTests() {
        String all = Checks.again("1=1", "&", 58);
        String none = Checks.again("1=2", "|", 57);
        doc.says("a PART: TESTS with an & between two, all of which must");
        holds(all, true);
        holds(all.substring(0, all.length() - 1) + "2", false);
        holds("1=2" + all.substring(3), false);
        doc.says("C: PARTS with a | between two, one of which must hold");
        holds(none, false);
        holds(none + "|1=1", true);
        holds("1=1|" + none, true);
        doc.says("a FACTOR: [E]");
        comesTo("1+2*[1+2*[1+2*[1+2*[1+2*[1+2*2]]]]]", 191);
        comesTo("9-1*[9-1*[9-1*[9-1*[9-1*[9-1*9]]]]]", 9);
    }

    private static void tests() {
        doc.says("a TEST: !TEST, (C), or E, one of < > =, and E.");
        holds("!1=1", false);
        holds("!1=2", true);
        holds("!!1=1", true);
        holds("!1=2&1=2", false);
        holds("!1=1|1=1", true);
        holds("!(1=2&1=2)", true);
        holds("!(1=1|1=2)", false);
        holds("((1=1))", true);
        for (int i = 0; i <= 2; i++) {
            holds("1<" + i, 1 < i);
            holds("1>" + i, 1 > i);
            holds("1=" + i, 1 == i);
        }
        holds("0-1<0", true);
        holds("0>0-1", true);
        doc.due("no sign", read("g1(1)"), -1004);
        doc.due("two signs", read("g1(1<=1)"), -1005);
        doc.due("a third E", read("g1(1=1=1)"), -1006);
        doc.due("nothing", read("g1()"), -1003);
    }

    private static void fromTheLeft() {
        doc.says("E: TERMS with + or - between two; a TERM: FACTORS with one of * / % between two; from the left on");
        comesTo("9-3-2", 4);
        comesTo("9-3+2", 8);
        comesTo("2+3*4", 14);
        comesTo("2*3+4", 10);
        comesTo("20-2*3-4", 10);
        comesTo("60/6/5", 2);
        comesTo("60/6*5", 50);
        comesTo("7*9%10", 3);
        comesTo("7%10*9", 63);
        comesTo("17%10/2", 3);
        comesTo("2*[3+4]", 14);
        comesTo("9-[3-2]", 8);
        comesTo("[[7]]", 7);
        doc.due("+ ahead", read("g+1(1=1)"), -1001);
        doc.due("- ahead", read("g-1(1=1)"), -1001);
        doc.due("* ahead", read("g*1(1=1)"), -1001);
        doc.due("nothing in brackets", read("g[](1=1)"), -1002);
    }

    private static void numbers() {
        doc.says("a number of one to five digits");
        comesTo("0", 0);
        comesTo("00000", 0);
        comesTo("00007", 7);
        comesTo("9*11111", 99999);
        comesTo("100*100", 10000);
        comesTo("100*123+45", 12345);
        doc.due("six", read("g100000(1=1)"), -2006);
        doc.due("no digit behind one", read("g1:(1=1)"), -1002);
        doc.due("no digit behind five", read("g12345:(1=1)"), -1006);
        doc.due("a letter behind one", read("g1p(1=1)"), -1002);
        doc.due("none", read("g(1=1)"), -1001);
    }

    private static void lettersOfHim() {
        doc.says("p he");
        for (int p = 0; p < 16; p++) {
            TalkingPlots x = new TalkingPlots();
            x.person(p, 0, 20);
            Checks.burials(x, (char) ('a' + p) + "@9,5");
            Checks.law(x, "gp(1=1)");
            doc.due("p of " + p, x.tried(1, 10 + p), 20 + p);
        }
        doc.says("m his MOOD");
        doc.due("99", moodThen(99, "b50(m=99)"), 49);
        doc.due("1", moodThen(1, "g50(m=1)"), 51);
        doc.says("n how many are BESIDE him");
        TalkingPlots x = Sentences.laid("a@4,4", 1, 1, 1, 1, 1, 1);
        x.person(4, 1, 0);
        Checks.law(x, "gn(p=0)");
        String[] more = {"f@5,5", "b@4,3", "c@3,4", "d@5,4", "e@4,5"};
        for (int i = 0; i < more.length; i++) {
            Checks.burials(x, more[i]);
            doc.due("n of " + i, x.tried(1, 10), 50 + i);
        }
    }

    private static void lettersOfTheOther() {
        doc.says("k the other one, s how many TOPICS are SHARED, u how many the other one has that he has not");
        due(0, 65535, 0, 16);
        due(65535, 65535, 16, 0);
        due(65535, 0, 0, 0);
        due(7, 28, 1, 2);
        due(28, 7, 1, 2);
        due(1, 15, 1, 3);
        due(15, 1, 1, 0);
        doc.says("o the other one's");
        for (int mood : new int[] {1, 99}) {
            TalkingPlots x = Sentences.laid("a@1,1", 0, 0);
            x.person(1, 0, mood);
            Checks.burials(x, "b@1,0");
            Checks.law(x, "e1(p=0);g7(o=" + mood + "&p=0)");
            doc.due("o of " + mood, x.tried(1, 10), 57);
        }
    }

    private static void due(int his, int its, int shared, int unknown) {
        TalkingPlots x = Sentences.with(his);
        x.person(15, its, 50);
        Checks.burials(x, "a@1,1;p@1,2");
        Checks.law(x, "e1(p=0);gs+10(k=15)");
        doc.due("s of " + his + " and " + its, x.tried(1, 10), 60 + shared);
        Checks.law(x, "e1(p=0);gu+10(k=15)");
        doc.due("u of " + his + " and " + its, x.tried(1, 10), 60 + unknown);
    }

    private static void nightModulo100() {
        doc.says("t THE NIGHT modulo 100");
        TalkingPlots x = Sentences.laid("a@1,1", 1);
        Checks.law(x, "g1(t=0);b1(t=99)");
        int[] nights = {1, 2, 99, 100, 101, 102, 199, 200, 201};
        int[] moods = {51, 51, 51, 50, 51, 51, 51, 50, 51};
        for (int i = 0; i < nights.length; i++) {
            doc.due("behind " + nights[i], x.tried(nights[i], 10), moods[i]);
        }
        Checks.law(x, "g1(t>99);b1(t<0)");
        doc.due("never 100", x.tried(240, 10), 50);
    }

    private static void nobodyAndQ() {
        doc.says("(k, s, u, o in q, and where he talks with nobody: 0)");
        TalkingPlots x = new TalkingPlots();
        x.person(1, 7, 60);
        x.person(15, 3, 40);
        Checks.burials(x, "p@1,1;b@1,2");
        Checks.law(x, "e1(p=15);g7(p=15&k=1&s=2&u=1&o=60);q(k=0&s=0&u=0&o=0&n=1&p=1)");
        doc.due("p talks", x.tried(1, 25), 47);
        Checks.law(x, "e1(p=15);g7(p=15);q(k=0&s=0&u=0&o=0&n=1&p=15&m=40)");
        doc.due("p keeps silent", x.tried(1, 25), 40);
        Checks.law(x, "e1(p=15);g7(p=15);q(k>0|s>0|u>0|o>0)");
        doc.due("p does not", x.tried(1, 25), 47);
        Checks.law(x, "g3(k=0&s=0&u=0&o=0&n=1&p=15&m=40);b2(k=0&s=0&u=0&o=0)");
        doc.due("p talks with nobody", x.tried(1, 25), 41);
    }

    private static void bits32() {
        doc.says("All is reckoned with 32 bits, as the machine does");
        holds("32767*65536+65535>0", true);
        holds("32767*65536+65535+1<0", true);
        holds("32768*65536<0", true);
        holds("32768*65536-1>0", true);
        comesTo("65536*65536", 0);
        comesTo("99999*99999%10000", 5409);
        comesTo("[0-7]/2", -3);
        comesTo("[0-7]%2", -1);
        comesTo("7/[0-2]", -3);
        comesTo("7%[0-2]", 1);
        holds("[32768*65536]/[0-1]=32768*65536", true);
        comesTo("[32768*65536]%[0-1]", 0);
        holds("0-32768*65536<0", true);
    }

    private static void refused() {
        doc.says("what is divided by 0 is REFUSED: then the whole C of the RULE does not hold, the E of it is 0.");
        moreDue("g5/0(1=1)", 0);
        moreDue("g5%0(1=1)", 0);
        moreDue("g0/0(1=1)", 0);
        moreDue("g7+5/0(1=1)", 0);
        moreDue("g7+0*[5%0](1=1)", 0);
        moreDue("g5/[1-1](1=1);g6(1=1)", 0);
        moreDue("g5(1/0=1);g6(1=1)", 6);
        moreDue("g5(1%0=1);g6(1=1)", 6);
        moreDue("g5(!1/0=1);g6(1=1)", 6);
        moreDue("g5(!(!1/0=1));g6(1=1)", 6);
        moreDue("g5(1/0=1|1=1);g6(1=1)", 6);
        moreDue("g5(1=2|1/0=1|1=1);g6(1=1)", 6);
        moreDue("g5((1/0=1)|1=1);g6(1=1)", 6);
        moreDue("g5(1=1/0);g6(1=1)", 6);
        moreDue("q(1/0=1);g6(1=1)", 6);
        doc.due("e", likes("e9/0(k=1);e1(1=1)"), 2);
        doc.due("C of e", likes("e9(1/0=1);e[k](1=1)"), 2);
        doc.due("b", moodThen(50, "b9/0(1=1);b3(1=1)"), 50);
        TalkingPlots x = Sentences.laid("a@1,1;b@0,1", 0, 1);
        Checks.law(x, "e1(p=0);h9/0(1=1);h10(1=1)");
        doc.due("h", x.tried(9, 1), 0);
    }

    private static void asMuchAsMatters() {
        doc.says("Of a C as much is asked, from the left, as matters.");
        holds("1=1|1/0=1", true);
        holds("1=1|1/0=1&1=2|1/0=1", true);
        holds("1=2&1/0=1|1=1", true);
        holds("1=2&1/0=1&1/0=1|1=1", true);
        holds("1=2&(1/0=1|1=1)|1=1", true);
        holds("(1=1|1/0=1)&1=1", true);
        holds("(1=2&1/0=1)|1=1", true);
        holds("!(1=2&1/0=1)", true);
        holds("!(1=1|1/0=1)|1=1", true);
        holds("1=1&1=1|1/0=1", true);
        holds("1=1&1/0=1|1=1", false);
        holds("1=2|1/0=1", false);
        holds("1=2&1=1|1/0=1", false);
        holds("(1=2|1/0=1)|1=1", false);
        holds("1/0=1&1=2|1=1", false);
    }

    private static void cannotStand() {
        doc.says("FAULTS, the first from the left: 1 what can't stand there (the end, too); 2 a sixth digit");
        doc.cutOff("es+12*[u-k]/3%4(!(1=1&p<2)|m>o);h10(t=99);g3(n>0);b9(1=1);q(n=t)", EdgesOfLawTest::read);
        for (int sign : new int[] {0, 32, 33, 40, 41, 42, 47, 58, 59, 60, 92, 93, 97, 101, 104, 113, 118, 176, 240, 255}) {
            doc.due("at a FACTOR: " + sign, read("g" + (char) sign + "9(1=1)"), -1001);
        }
        for (int sign : new int[] {0, 32, 33, 41, 44, 46, 48 + 128, 58, 59, 61, 91, 93, 97, 112, 170, 173, 255}) {
            doc.due("behind a FACTOR: " + sign, read("gp" + (char) sign + "9(1=1)"), -1002);
        }
        doc.due("the first of two", read("g?(1=1);x"), -1001);
        doc.due("ahead of a sixth digit", read("g?(1=123456)"), -1001);
        doc.due("behind a sixth digit", read("g123456(?"), -2006);
        doc.due("ahead of a seventh open", read("g[?[[[[[["), -1002);
    }

    private static void sixthDigit() {
        doc.says("2 a sixth digit, at it;");
        doc.due("in E", read("e123456(1=1)"), -2006);
        for (int digit = 0; digit <= 9; digit++) {
            doc.due("digit " + digit, read("e" + Checks.again("" + digit, "", 6) + "(1=1)"), -2006);
        }
        doc.due("a seventh", read("e1234567(1=1)"), -2006);
        doc.due("the last sign", read("e123456"), -2006);
        doc.due("in C", read("e1(123456=1)"), -2008);
        doc.due("on the right", read("e1(1=123456)"), -2010);
        doc.due("a second number", read("e12345+123456(1=1)"), -2012);
        doc.due("of q", read("q(123456=1)"), -2007);
        doc.due("five and five", read("e12345*12345(12345=12345)"), 1);
    }

    private static void aRuleTooMany() {
        doc.says("4 a 17th RULE, at its letter (if that can stand there);");
        String many = Checks.again("q" + ALWAYS, ";", 16);
        for (char letter : new char[] {'e', 'h', 'g', 'b', 'q'}) {
            doc.due("letter " + letter, read(many + ";" + letter), -4112);
        }
        doc.due("what is behind it", read(many + ";e?"), -4112);
        doc.due("no letter", read(many + ";a"), -1112);
        doc.due("no letter, either", read(many + ";;"), -1112);
        doc.due("the end", read(many + ";"), -1112);
        doc.due("no ;", read(many + "q"), -1111);
    }

    private static void seventhOpen() {
        doc.says("5 a seventh of ( [ ! that are open in one another, at it");
        doc.due("six (", read("q((((((1=1))))))"), 1);
        doc.due("seven (", read("q(((((((1=1)))))))"), -5007);
        doc.due("five !", read("q(!!!!!1=1)"), 1);
        doc.due("six !", read("q(!!!!!!1=1)"), -5007);
        doc.due("five [", read("q([[[[[1]]]]]=1)"), 1);
        doc.due("six [", read("q([[[[[[1]]]]]]=1)"), -5007);
        doc.due("six [ on the right", read("q(1=[[[[[[1]]]]]])"), -5009);
        doc.due("of all kinds", read("q(!(!([1]=1)))"), 1);
        doc.due("of all kinds, a seventh [", read("q(!(!([[1]]=1)))"), -5007);
        doc.due("of all kinds, a seventh !", read("q(!(!((!1=1))))"), -5007);
        doc.due("of all kinds, a seventh (", read("q(!(!(!(1=1))))"), -5007);
        doc.due("one behind the other", read("q((1=1)&(1=1)&(1=1)&(1=1)&(1=1)&(1=1)&(1=1))"), 1);
        doc.due("[ behind the other", read("q([1]+[1]+[1]+[1]+[1]+[1]+[1]=7)"), 1);
        doc.due("closed again", read("q((((((1=1)))))|(((((1=1))))))"), 1);
    }

    private static void theRulesOwn() {
        doc.says("(the ( of the RULE counts;");
        doc.due("five more", read("e1((((((1=1))))))"), 1);
        doc.due("six more", read("e1(((((((1=1)))))))"), -5008);
        doc.due("of a second RULE", read("q(1=1);q((((((1=1))))))"), 2);
        doc.due("of a second RULE, six more", read("q(1=1);q(((((((1=1)))))))"), -5014);
    }

    private static void openTillItsTestEnds() {
        doc.says("a ! is open till its TEST ends;");
        doc.due("! and [", read("q(!!!!!1=[1])"), -5009);
        doc.due("! and [ ahead", read("q(!!!!![1]=1)"), -5007);
        doc.due("four ! and [", read("q(!!!![1]=[1])"), 1);
        doc.due("! and (", read("q(!!!!!(1=1))"), -5007);
        doc.due("four ! and (", read("q(!!!!(1=1))"), 1);
        doc.due("ended by &", read("q(!!!!!1=1&[[[[[1]]]]]=1)"), 1);
        doc.due("ended by |", read("q(!!!!!1=1|!!!!!1=1)"), 1);
        doc.due("ended by )", read("q((!!!!1=1)&!!!!!1=1)"), 1);
        doc.due("ended, and a sixth", read("q(!!!!!1=1|!!!!!!1=1)"), -5016);
        doc.due("ended with its (C)", read("q(!!!!(1=1)&((((1=1)))))"), 1);
    }

    private static void aheadOfIt() {
        doc.says("the E of a RULE stands ahead of it)");
        doc.due("six [", read("e[[[[[[1]]]]]](1=1)"), 1);
        doc.due("seven [", read("e[[[[[[[1]]]]]]](1=1)"), -5007);
        doc.due("six [ and six (", read("e[[[[[[1]]]]]]((((((1=1))))))"), 1);
        doc.due("of a second RULE", read("q(1=1);e[[[[[[[1]]]]]]](1=1)"), -5014);
    }

    private static void promise() {
        doc.says("THE LAW by the first n bytes of the tape (1 to 240; empty then), in place of the one before: how many RULES;"
                + " a FAULT: -1000 times its number, less its place (the one before stays);"
                + " NONE: no such n, it has not so many (the tape stays).");
        TalkingPlots x = Sentences.laid("a@0,0", 1);
        for (int n : new int[] {Integer.MIN_VALUE, -1, 0, 1}) {
            doc.due("of an empty tape " + n, x.law(n), -1);
        }
        Checks.feed(x, "g5(1=1)?");
        for (int n : new int[] {Integer.MIN_VALUE, -1, 0, 21, 240, 241, Integer.MAX_VALUE}) {
            doc.due("law(" + n + ") of 20", x.law(n), -1);
            doc.due("the tape stays", x.count(5), 20);
        }
        doc.due("the first seven alone", x.law(7), 1);
        doc.due("empty then", x.count(5), 0);
        doc.due("it is THE LAW", x.tried(1, 10), 55);
        Checks.feed(x, "g");
        doc.due("one byte", x.law(1), -1001);
        doc.due("empty then, too", x.count(5), 0);
        for (String fault : new String[] {"g7(1=1);", "g7(1=1);g123456", "g7(1=1);g[[[[[[[", "?", Checks.again("g7(1=1)", ";", 17)}) {
            doc.due("a FAULT of " + fault, Checks.law(x, fault) <= -1000, true);
            doc.due("RULES", x.count(4), 1);
            doc.due("the one before stays", x.tried(1, 10), 55);
        }
        doc.law(x, "b5(1=1);b6(1=1)", 2);
        doc.due("RULES then", x.count(4), 2);
        doc.due("in place of the one before", x.tried(1, 10), 45);
    }
}
