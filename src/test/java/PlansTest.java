/** Promises 11, 12, 13, 14 and 22: TALK of THE YARD, BEST, MOVE, CHANGE and GOOD. */
public final class PlansTest {
    private static final Checks CHECKS = new Checks();

    public static void main(String[] args) {
        emptyYard();
        yardTalk();
        best();
        move();
        change();
        good();
        wrongOnes();
        CHECKS.end();
    }

    private static void emptyYard() {
        TalkingPlots x = new TalkingPlots();
        CHECKS.due("yardTalk()", x.yardTalk(), 0);
        for (int what = 0; what <= 2; what++) {
            CHECKS.due("move(" + what + ")", x.move(what), -2);
            CHECKS.due("change(" + what + ")", x.change(what), -2);
            CHECKS.due("good(5, " + what + ")", x.good(5, what), 0);
        }
        x.person(9, 1, 1);
        CHECKS.due("best plot of one who is alone", x.best(9, 0), 0);
        CHECKS.due("best of one who is alone", x.best(9, 1), 0);
    }

    private static void yardTalk() {
        TalkingPlots x = new TalkingPlots();
        x.person(0, 3, 1);
        x.person(1, 3, 1);
        x.person(2, 12, 1);
        x.person(3, 3, 1);
        Checks.burials(x, "a@9,0;b@9,1;c@8,1;d@0,2");
        CHECKS.due("a b and b c", x.yardTalk(), 6 - 4);
        Checks.burials(x, "d@8,0");
        CHECKS.due("a square", x.yardTalk(), 6 - 4 + 6 - 4);
        Checks.burials(x, "b!;d!");
        CHECKS.due("nobody beside", x.yardTalk(), 0);
    }

    private static void best() {
        TalkingPlots x = new TalkingPlots();
        x.person(0, 3, 1);
        x.person(1, 3, 1);
        x.person(2, 3, 1);
        x.person(3, 3, 1);
        Checks.burials(x, "b@4,2;c@5,3");
        CHECKS.due("between both, the lowest Y", x.best(0, 0), 25);
        CHECKS.due("how much", x.best(0, 1), 12);
        Checks.burials(x, "d@5,2");
        CHECKS.due("that is taken", x.best(0, 0), 34);
        Checks.burials(x, "a@3,4");
        CHECKS.due("his own does not hold him", x.best(0, 0), 34);
        CHECKS.due("the one who lies between: his own", x.best(3, 0), 25);
        CHECKS.due("how much for him", x.best(3, 1), 12);
        Checks.burials(x, "b-A;b-B;b+C;c-A;c-B;c+D;d!;a@0,5");
        CHECKS.due("far from those he does not like", x.best(3, 0), 40);
        CHECKS.due("how much by a", x.best(3, 1), 6);
        Checks.burials(x, "a!");
        CHECKS.due("nobody whom he likes", x.best(3, 0), 0);
        CHECKS.due("nothing", x.best(3, 1), 0);
    }

    private static void move() {
        TalkingPlots x = new TalkingPlots();
        x.person(0, 3, 1);
        x.person(1, 3, 1);
        x.person(2, 3, 1);
        Checks.burials(x, "a@0,0;b@9,5");
        CHECKS.due("who", x.move(0), 0);
        CHECKS.due("where", x.move(1), 49);
        CHECKS.due("by how much", x.move(2), 6);
        Checks.burials(x, "c@8,4");
        CHECKS.due("between both", x.move(1), 49);
        CHECKS.due("by more", x.move(2), 12);
        Checks.burials(x, "a@9,4");
        CHECKS.due("none makes it more", x.move(0), -2);
        CHECKS.due("none makes it more, where", x.move(1), -2);
        CHECKS.due("none makes it more, by", x.move(2), -2);
        Checks.burials(x, "a-A;a-B;a+C");
        CHECKS.due("b leaves a, whom he does not like", x.move(0), 1);
        CHECKS.due("for the lowest plot by c alone", x.move(1), 38);
        CHECKS.due("by both", x.move(2), 3 + 6);
        Checks.burials(x, "c!");
        CHECKS.due("of like ones the lowest", x.move(0), 0);
        CHECKS.due("of like ones the first plot", x.move(1), 0);
        CHECKS.due("by what was below 0", x.move(2), 3);
        CHECKS.due("what -1", x.move(-1), -1);
        CHECKS.due("what 3", x.move(3), -1);
    }

    private static void change() {
        TalkingPlots x = new TalkingPlots();
        x.person(0, 3, 1);
        x.person(1, 12, 1);
        x.person(2, 3, 1);
        x.person(3, 12, 1);
        Checks.burials(x, "a@0,0;b@1,0;c@8,5;d@9,5");
        CHECKS.due("the first", x.change(0), 0);
        CHECKS.due("the other", x.change(1), 3);
        CHECKS.due("by how much", x.change(2), 20);
        Checks.burials(x, "a=d");
        CHECKS.due("none makes it more", x.change(0), -2);
        CHECKS.due("none, the other", x.change(1), -2);
        CHECKS.due("none, by", x.change(2), -2);
        Checks.burials(x, "b!;c!;a@1,0;b@2,0;c@3,0");
        CHECKS.due("neighbours change", x.change(0), 0);
        CHECKS.due("with", x.change(1), 1);
        CHECKS.due("by", x.change(2), 20);
        CHECKS.due("what -1", x.change(-1), -1);
        CHECKS.due("what 3", x.change(3), -1);
    }

    private static void good() {
        TalkingPlots x = new TalkingPlots();
        x.person(0, 3, 1);
        x.person(1, 3, 1);
        x.person(2, 12, 1);
        x.person(3, 3, 1);
        x.person(4, 3, 1);
        Checks.burials(x, "a@2,3;b@3,3;c@4,3;d@7,3;e@7,2");
        stretch(x, 3, 0, 7, 6 + 2 - 4 + 6);
        stretch(x, 2, 0, 7, 6);
        stretch(x, 4, 0, 0, 0);
        Checks.burials(x, "e!");
        stretch(x, 3, 0, 3, 8);
        Checks.burials(x, "a!");
        stretch(x, 3, 0, 0, 0);
        Checks.burials(x, "d!;a@0,0;c@0,1;b@1,0;e@1,1");
        stretch(x, 0, 0, 1, 14);
        stretch(x, 1, 1, 1, 2);
        Checks.burials(x, "b+C;b+D;b-A;b-B;e!;a!;d!;c!");
        stretch(x, 0, 0, 0, 0);
    }

    private static void stretch(TalkingPlots x, int y, int from, int to, int much) {
        CHECKS.due("from in " + y, x.good(y, 0), from);
        CHECKS.due("to in " + y, x.good(y, 1), to);
        CHECKS.due("how much in " + y, x.good(y, 2), much);
    }

    private static void wrongOnes() {
        TalkingPlots x = new TalkingPlots();
        x.person(0, 0, 0);
        CHECKS.due("best(1, 0)", x.best(1, 0), -1000);
        CHECKS.due("best(-1, 0)", x.best(-1, 0), -1000);
        CHECKS.due("best(16, 0)", x.best(16, 0), -1000);
        CHECKS.due("best(0, -1)", x.best(0, -1), -1000);
        CHECKS.due("best(0, 2)", x.best(0, 2), -1000);
        CHECKS.due("good(-1, 0)", x.good(-1, 0), -1000);
        CHECKS.due("good(6, 0)", x.good(6, 0), -1000);
        CHECKS.due("good(0, -1)", x.good(0, -1), -1000);
        CHECKS.due("good(0, 3)", x.good(0, 3), -1000);
    }
}
