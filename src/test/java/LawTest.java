/** Promise 4: THE LAW, its FAULTS, and what its E and C come to. */
public final class LawTest {
    private static final Checks CHECKS = new Checks();

    public static void main(String[] args) {
        rules();
        faults();
        digits();
        openOnes();
        sums();
        conditions();
        refused();
        bounds();
        letters();
        CHECKS.end();
    }

    private static void due(TalkingPlots x, String text, int want) {
        CHECKS.due("law of " + text, Checks.law(x, text), want);
    }

    private static void rules() {
        TalkingPlots x = new TalkingPlots();
        due(x, "e1(1=1);h2(1=1);g3(1=1);b4(1=1);q(1=1)", 5);
        CHECKS.due("five", x.count(4), 5);
        due(x, "e1(1=1);?", -1008);
        CHECKS.due("the one before stays", x.count(4), 5);
        due(x, Checks.again("q(1=1)", ";", 16), 16);
        CHECKS.due("in place of the one before", x.count(4), 16);
        due(x, Checks.again("q(1=1)", ";", 16) + ";q", -4112);
        due(x, Checks.again("q(1=1)", ";", 16) + ";x", -1112);
        due(x, Checks.again("q(1=1)", ";", 16) + ";", -1112);
        String long240 = "g1" + Checks.again("", "+1", 116) + "(1=1)";
        due(x, long240 + "   ", -1000 - long240.length());
        due(x, "g" + Checks.again("1", "+", 117) + "(1=1)", 1);
    }

    private static void faults() {
        TalkingPlots x = new TalkingPlots();
        due(x, "a1(1=1)", -1000);
        due(x, ";", -1000);
        due(x, "e", -1001);
        due(x, "e(1=1)", -1001);
        due(x, "q1(1=1)", -1001);
        due(x, "ea(1=1)", -1001);
        due(x, "e-1(1=1)", -1001);
        due(x, "e1", -1002);
        due(x, "e1=1", -1002);
        due(x, "e1;", -1002);
        due(x, "ess(1=1)", -1002);
        due(x, "e1s(1=1)", -1002);
        due(x, "e1+(1=1)", -1003);
        due(x, "e1*/2(1=1)", -1003);
        due(x, "e1()", -1003);
        due(x, "e1(1)", -1004);
        due(x, "e1(1+1)", -1006);
        due(x, "e1(1=)", -1005);
        due(x, "e1(1==1)", -1005);
        due(x, "e1(1=1", -1006);
        due(x, "e1(1=1]", -1006);
        due(x, "e1(1=1=1)", -1006);
        due(x, "e1(1=1|)", -1007);
        due(x, "e1(1=1&&1=1)", -1007);
        due(x, "e1(!)", -1004);
        due(x, "e1((1=1)", -1008);
        due(x, "e1((1)=1)", -1005);
        due(x, "e1([1=1])", -1005);
        due(x, "e[1(1=1)", -1003);
        due(x, "e[](1=1)", -1002);
        due(x, "e1(1=1))", -1007);
        due(x, "e1(1=1);", -1008);
        due(x, "e1(1=1)e1(1=1)", -1007);
        due(x, "e1 (1=1)", -1002);
        due(x, "e" + (char) 240 + "(1=1)", -1001);
    }

    private static void digits() {
        TalkingPlots x = new TalkingPlots();
        due(x, "e12345(1=1)", 1);
        due(x, "e00000(1=1)", 1);
        due(x, "e123456(1=1)", -2006);
        due(x, "e000000", -2006);
        due(x, "e1(1=123456)", -2010);
        due(x, "e12345+123456(1=1)", -2012);
    }

    private static void openOnes() {
        TalkingPlots x = new TalkingPlots();
        due(x, "e[[[[[[1]]]]]](1=1)", 1);
        due(x, "e[[[[[[[1", -5007);
        due(x, "e1((((((1=1))))))", 1);
        due(x, "e1(((((((1=1)))))))", -5008);
        due(x, "e1(!!!!!1=1)", 1);
        due(x, "e1(!!!!!!1=1)", -5008);
        due(x, "e1([[[[[1]]]]]=1)", 1);
        due(x, "e1([[[[[[1]]]]]]=1)", -5008);
        due(x, "e1(1=[[[[[[1]]]]]])", -5010);
        due(x, "e1(!(!([1]=1)))", 1);
        due(x, "e1(!(!(![1]=1)))", -5008);
        due(x, "e1(!!!!!1=1&!!!!!1=1)", 1);
        due(x, "e1(!!!!!1=[1])", -5010);
        due(x, "e1(!!!!!1=1&(1=1))", 1);
        due(x, "e1(!!!!(1=1)&!!!!(1=1)|(((((1=1)))))", -1036);
        due(x, "e1(!!!!!(1=1))", -5008);
        due(x, "e[1]+[[2]]*[3](1=1);e[[[[[[1]]]]]](1=1)", 2);
        due(x, "e[[[[[[1(", -1008);
    }

    /** By how much the MOOD of one who is alone gets more from 1 on. */
    private static int more(String text) {
        TalkingPlots x = new TalkingPlots();
        x.person(3, 21, 1);
        Checks.burials(x, "d@5,3");
        int rules = Checks.law(x, text);
        return rules < 0 ? rules : x.tried(1, 13) - 1;
    }

    private static void moreDue(String text, int want) {
        CHECKS.due("by " + text, more(text), want);
    }

    private static void sums() {
        moreDue("g7(1=1)", 7);
        moreDue("g2+3*4(1=1)", 14);
        moreDue("g3*4+2(1=1)", 14);
        moreDue("g20-3-4(1=1)", 13);
        moreDue("g20-3*4-4(1=1)", 4);
        moreDue("g60/7/2(1=1)", 4);
        moreDue("g17%10*3(1=1)", 21);
        moreDue("g3*17%10(1=1)", 1);
        moreDue("g[2+3]*4(1=1)", 20);
        moreDue("g2*[3+4*[1+1]](1=1)", 22);
        moreDue("g99999*99999%100(1=1)", 9);
        moreDue("g10+[1-8]%5(1=1)", 8);
        moreDue("g10+[0-7]/2(1=1)", 7);
        moreDue("g1-5(1=1)", 0);
        moreDue("g[32768*65536]/[0-1]/99999(1=1)", 0);
        moreDue("g0-[32768*65536]/[0-1]/99999/999(1=1)", 21);
        moreDue("g7+[32768*65536]%[0-1](1=1)", 7);
        moreDue("g1+2*3-[4+5*6]%7*2+8/3(1=1)", 0);
        moreDue("g50+1+2*3-[4+5*6]%7*2+8/3(1=1)", 47);
    }

    private static void conditions() {
        moreDue("g5(1<2)", 5);
        moreDue("g5(2<1)", 0);
        moreDue("g5(1<1)", 0);
        moreDue("g5(2>1)", 5);
        moreDue("g5(1>2)", 0);
        moreDue("g5(2=1+1)", 5);
        moreDue("g5(2=1)", 0);
        moreDue("g5(1=1|1=2&1=2)", 5);
        moreDue("g5(1=2&1=2|1=1)", 5);
        moreDue("g5(1=2&1=1|1=2)", 0);
        moreDue("g5((1=1|1=2)&1=2)", 0);
        moreDue("g5(1=1&(1=2|1=1))", 5);
        moreDue("g5(!1=2&1=1)", 5);
        moreDue("g5(!1=2&1=2)", 0);
        moreDue("g5(!1=1|1=1)", 5);
        moreDue("g5(!(1=1|1=1))", 0);
        moreDue("g5(!!1=1)", 5);
        moreDue("g5(1=2|1=2|1=1)", 5);
        moreDue("g5(1=1&1=1&1=2)", 0);
        moreDue("g5(1=2|1=1&1=1|1=2)", 5);
        moreDue("g5(1=2|1=1&1=2|1=2)", 0);
        moreDue("g5(1=1|1=1&1=2|1=2)", 5);
        moreDue("g5(1=2);g6(1=1);g7(1=1)", 6);
        moreDue("h5(1=1);e6(1=1)", 0);
        moreDue("q(1=1);g5(1=1)", 0);
        moreDue("q(1=2);g5(1=1)", 5);
        moreDue("q(1=2);q(1=1);g5(1=1)", 0);
        moreDue("q(1=1);q(1=2);g5(1=1)", 0);
        moreDue("g5(1=1);q(1=2);q(1=1)", 0);
    }

    private static void refused() {
        moreDue("g5/0(1=1);g7(1=1)", 0);
        moreDue("g5+1%0(1=1)", 0);
        moreDue("g5+0*[1/0](1=1)", 0);
        moreDue("g5(1/0=1)", 0);
        moreDue("g5(1/0=1);g7(1=1)", 7);
        moreDue("g5(!1/0=1)", 0);
        moreDue("g5(!(1=2|1/0=1))", 0);
        moreDue("g5(1=1|1/0=1)", 5);
        moreDue("g5(1/0=1|1=1)", 0);
        moreDue("g5(1=2&1/0=1|1=1)", 5);
        moreDue("g5(1=1&1/0=1|1=1)", 0);
        moreDue("g5((1=1|1/0=1)&1=1)", 5);
        moreDue("g5((1=2&1%0=1)|1=1)", 5);
        moreDue("g5(1=2&1/0=1&1/0=1|1=2|1=1|1/0=1)", 5);
        moreDue("g5(1=1);q(1/0=1)", 5);
        moreDue("g5(1=1);q(1=1|1/0=1)", 0);
    }

    private static void bounds() {
        moreDue("g500(1=1)", 98);
        moreDue("g500(1=1);b50(1=1)", 49);
        moreDue("g70(1=1);b500(1=1)", -1);
        TalkingPlots x = new TalkingPlots();
        x.person(0, 1, 90);
        Checks.burials(x, "a@0,0");
        Checks.law(x, "g50(1=1);b500(1=1)");
        CHECKS.due("b is 99 at most", x.tried(1, 10), 41);
        Checks.law(x, "g1-50(1=1);b2-50(1=1)");
        CHECKS.due("neither is below 0", x.tried(1, 10), 90);
        x.person(1, 1, 50);
        x.person(2, 3, 50);
        Checks.burials(x, "a@1,1;b@0,1;c@2,1");
        Checks.law(x, "e20000(k=2);e9999(k=1);g5(k=1);g6(k=2)");
        CHECKS.due("e is 9999 at most", x.tried(1, 10), 95);
        Checks.law(x, "e9998(k=1);e9999(k=2);g5(k=1);g6(k=2)");
        CHECKS.due("he likes c more", x.tried(1, 10), 96);
        Checks.law(x, "e0-5(1=1);g7(k=0)");
        CHECKS.due("e is not below 0", x.tried(1, 0), 0);
        CHECKS.due("so he is alone", x.tried(1, 10), 97);
    }

    /** One's MOOD gets more by a letter of the one he talks with, or of nobody. */
    private static void letters() {
        TalkingPlots x = new TalkingPlots();
        x.person(2, 7, 20);
        x.person(4, 58, 30);
        x.person(5, 0, 0);
        x.person(7, 0, 40);
        Checks.burials(x, "c@5,3;e@5,4;f@4,3;h@0,0");
        letter(x, "p", 22);
        letter(x, "k", 24);
        letter(x, "s", 21);
        letter(x, "u", 23);
        letter(x, "m", 40);
        letter(x, "o", 50);
        letter(x, "n", 22);
        letter(x, "t", 20);
        Checks.law(x, "e1(p=2);gp+k*100+s*100+u*100+o*100(p=7)");
        CHECKS.due("k, s, u, o of nobody", x.tried(1, 17), 47);
        Checks.law(x, "g1(1=1);q(k=0&s=0&u=0&o=0&p=2&m=20&n=2&t=0)");
        CHECKS.due("k, s, u, o in q", x.tried(1, 12), 20);
        CHECKS.due("not of e", x.tried(1, 14), 31);
        Checks.law(x, "g1(t=99);b1(t=1)");
        CHECKS.due("t is modulo 100", x.tried(201, 17), 40);
        CHECKS.due("t is 1 in the 202nd", x.tried(202, 17), 39);
    }

    private static void letter(TalkingPlots x, String letter, int want) {
        Checks.law(x, "e1(p=2&k=4);g" + letter + "(p=2)");
        CHECKS.due("by " + letter, x.tried(1, 12), want);
    }
}
