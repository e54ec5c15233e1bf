import java.io.IOException;

/** TALK of THE YARD, BEST, MOVE, CHANGE, ROWS, COUPLES and GOOD: the boundary cases, sentence by sentence. */
public final class EdgesOfPlansTest {
    private static Sentences doc;

    public static void main(String[] args) throws IOException {
        doc = new Sentences();
        yardTalk();
        bestPlot();
        goneFromHisOwn();
        likePlots();
        promiseOfBest();
        moveIfMore();
        likeMoves();
        promiseOfMove();
        change();
        likeChanges();
        promiseOfChange();
        rows();
        leastRow();
        promiseOfRow();
        couples();
        likeCouples();
        promiseOfCouples();
        good();
        below0();
        likeStretches();
        promiseOfGood();
        doc.end();
    }

    private static void yardTalk() {
        doc.says("TALK of THE YARD: that of all twos BESIDE each other added up.");
        TalkingPlots x = Sentences.with(3, 3, 3, 3, 12);
        doc.due("nobody is laid", x.yardTalk(), 0);
        Checks.burials(x, "a@0,0");
        doc.due("one alone", x.yardTalk(), 0);
        Checks.burials(x, "b@1,1");
        doc.due("aslant", x.yardTalk(), 0);
        Checks.burials(x, "b@0,1");
        doc.due("two", x.yardTalk(), 6);
        Checks.burials(x, "c@1,0;d@1,1");
        doc.due("four twos in a square", x.yardTalk(), 24);
        Checks.burials(x, "a!;b!;c!;d@0,1;e@0,2");
        doc.due("below 0", x.yardTalk(), -4);
        Checks.burials(x, "d@9,1");
        doc.due("not across the wall", x.yardTalk(), 0);
        x = Sentences.with(1, 2, 4, 8, 16, 32, 64, 128, 256, 512, 1024, 2048, 4096, 8192, 16384, 32768);
        Checks.burials(x, "a@0,0;b@1,0;c@2,0;d@3,0;e@0,1;f@1,1;g@2,1;h@3,1;i@0,2;j@1,2;k@2,2;l@3,2;m@0,3;n@1,3;o@2,3;p@3,3");
        doc.due("24 twos of sixteen", x.yardTalk(), -48);
        doc.says("TALK of THE YARD.");
        doc.due("of a new one", new TalkingPlots().yardTalk(), 0);
    }

    private static void bestDue(TalkingPlots x, int p, int plot, int much) {
        doc.due("BEST PLOT for " + p, x.best(p, 0), plot);
        doc.due("how much for " + p, x.best(p, 1), much);
    }

    private static void bestPlot() {
        doc.says("BEST for one: the free PLOT (or his own)");
        TalkingPlots x = Sentences.with(3, 3, 3, 3, 12);
        bestDue(x, 0, 0, 0);
        Checks.burials(x, "b@9,5");
        bestDue(x, 0, 49, 6);
        Checks.burials(x, "c@9,4");
        bestDue(x, 0, 39, 6);
        Checks.burials(x, "c@8,4");
        bestDue(x, 0, 49, 12);
        Checks.burials(x, "d@9,4");
        bestDue(x, 0, 58, 12);
        bestDue(x, 3, 49, 12);
        Checks.burials(x, "e@8,5");
        bestDue(x, 0, 38, 6);
        bestDue(x, 4, 0, 0);
    }

    private static void goneFromHisOwn() {
        doc.says("with those who would be BESIDE him (he gone from his own PLOT) added up is most");
        TalkingPlots x = Sentences.laid("a@5,3;b@6,4", 65535, 65535);
        bestDue(x, 0, 36, 48);
        Checks.burials(x, "b!");
        bestDue(x, 0, 0, 0);
        x = Sentences.laid("a@0,0;b@1,0;c@0,1", 1, 2, 4);
        bestDue(x, 0, 3, 0);
        bestDue(x, 1, 2, 0);
        bestDue(x, 2, 3, 0);
    }

    private static void likePlots() {
        doc.says("of like ones the lowest Y, then X; how much.");
        TalkingPlots x = Sentences.laid("a@4,2", 1, 1);
        bestDue(x, 1, 14, 3);
        Checks.burials(x, "a@0,0");
        bestDue(x, 1, 1, 3);
        Checks.burials(x, "a@9,0");
        bestDue(x, 1, 8, 3);
        Checks.burials(x, "a@0,5");
        bestDue(x, 1, 40, 3);
        Checks.burials(x, "b@9,5");
        bestDue(x, 1, 40, 3);
        Checks.burials(x, "b@1,5");
        bestDue(x, 1, 40, 3);
    }

    private static void promiseOfBest() {
        doc.says("BEST for a told one, what 0 the PLOT, 1 how much; -1000: no such ones.");
        TalkingPlots x = Sentences.with(1);
        for (int p : new int[] {Integer.MIN_VALUE, -1, 1, 15, 16, Integer.MAX_VALUE}) {
            doc.due("best(" + p + ", 0)", x.best(p, 0), -1000);
            doc.due("best(" + p + ", 1)", x.best(p, 1), -1000);
        }
        for (int what : new int[] {Integer.MIN_VALUE, -1, 2, Integer.MAX_VALUE}) {
            doc.due("best(0, " + what + ")", x.best(0, what), -1000);
        }
        doc.due("not laid", x.best(0, 0), 0);
        x.person(15, 1, 1);
        doc.due("the last one", x.best(15, 1), 0);
    }

    private static void moveDue(TalkingPlots x, int who, int plot, int more) {
        doc.due("who moves", x.move(0), who);
        doc.due("where he moves", x.move(1), plot);
        doc.due("by how much more", x.move(2), more);
    }

    private static void moveIfMore() {
        doc.says("MOVE: the one laid whose move to a free PLOT makes the TALK of THE YARD most (if it gets more by it;");
        TalkingPlots x = Sentences.with(1, 1, 7, 12);
        moveDue(x, -2, -2, -2);
        Checks.burials(x, "a@5,5");
        moveDue(x, -2, -2, -2);
        Checks.burials(x, "d@5,4;a@9,0");
        moveDue(x, -2, -2, -2);
        Checks.burials(x, "d!;c@0,5");
        moveDue(x, 0, 40, 1);
        Checks.burials(x, "c!;d@9,1");
        moveDue(x, 0, 0, 3);
        Checks.burials(x, "d!;b@9,1");
        moveDue(x, -2, -2, -2);
        Checks.burials(x, "b@9,5");
        moveDue(x, 0, 49, 3);
        moveDue(Sentences.laid("a@0,0;b@0,1;c@9,5", 3, 3, 3), 2, 1, 6);
        moveDue(Sentences.laid("a@5,2;b@5,3;c@4,2", 3, 12, 3), 0, 14, 4);
        moveDue(Sentences.laid("a@5,2;b@5,3;c@4,2;d@6,2", 3, 12, 3, 3), 1, 0, 4);
        moveDue(Sentences.laid("a@5,2;b@5,3;c@4,2", 3, 9, 3), -2, -2, -2);
    }

    private static void likeMoves() {
        doc.says("of like ones the lowest, then the lowest Y, then X): who, where, by how much more.");
        TalkingPlots x = Sentences.laid("a@0,5;b@9,0", 1, 1, 1, 1);
        moveDue(x, 0, 8, 3);
        Checks.burials(x, "a=b");
        moveDue(x, 0, 40, 3);
        Checks.burials(x, "a!;b@2,2;c@6,2;d@6,3");
        moveDue(x, 1, 16, 3);
        Checks.burials(x, "b@7,3;d!");
        moveDue(x, 1, 16, 3);
    }

    private static void promiseOfMove() {
        doc.says("MOVE, what 0 who, 1 the PLOT, 2 by how much more; -2: none makes it more; NONE: no such what.");
        TalkingPlots x = Sentences.with(1, 1);
        for (int what = 0; what <= 2; what++) {
            doc.due("none: " + what, x.move(what), -2);
        }
        for (int what : new int[] {Integer.MIN_VALUE, -1, 3, 100, Integer.MAX_VALUE}) {
            doc.due("move(" + what + ")", x.move(what), -1);
        }
        Checks.burials(x, "a@0,0;b@9,5");
        moveDue(x, 0, 49, 3);
        for (int what : new int[] {-1, 3}) {
            doc.due("move(" + what + ")", x.move(what), -1);
        }
    }

    private static void changeDue(TalkingPlots x, int first, int other, int more) {
        doc.due("the first", x.change(0), first);
        doc.due("the other", x.change(1), other);
        doc.due("by how much more", x.change(2), more);
    }

    private static void change() {
        doc.says("CHANGE: likewise of two laid that change PLOTS");
        TalkingPlots x = Sentences.with(3, 12, 3, 12);
        changeDue(x, -2, -2, -2);
        Checks.burials(x, "a@0,0");
        changeDue(x, -2, -2, -2);
        Checks.burials(x, "b@1,0");
        changeDue(x, -2, -2, -2);
        Checks.burials(x, "c@2,0");
        changeDue(x, 0, 1, 10);
        Checks.burials(x, "c!;d@8,0");
        changeDue(x, 0, 3, 10);
        Checks.burials(x, "c@9,0");
        changeDue(x, 0, 3, 20);
        Checks.burials(x, "a=d");
        changeDue(x, -2, -2, -2);
        changeDue(Sentences.laid("a@0,0;b@1,0;c@9,5", 11, 7, 3), 0, 2, 1);
        changeDue(Sentences.laid("a@0,0;b@1,0;c@9,5", 3, 3, 3), -2, -2, -2);
        changeDue(Sentences.laid("a@0,0;b@1,0;c@9,5", 3, 3, 7), -2, -2, -2);
    }

    private static void likeChanges() {
        doc.says("(of like ones the lowest first, then the lowest other)");
        TalkingPlots x = Sentences.laid("a@0,0;b@1,0;c@5,5;d@7,5", 3, 12, 3, 3, 12);
        changeDue(x, 1, 2, 10);
        Checks.burials(x, "e@9,5");
        changeDue(x, 0, 4, 10);
        Checks.burials(x, "e!;c!");
        changeDue(x, 1, 3, 10);
    }

    private static void promiseOfChange() {
        doc.says("CHANGE, what 0 the first, 1 the other, 2 by how much more; -2: none makes it more; NONE: no such what.");
        TalkingPlots x = Sentences.with(3, 12, 3);
        for (int what = 0; what <= 2; what++) {
            doc.due("none: " + what, x.change(what), -2);
        }
        Checks.burials(x, "a@0,0;b@1,0;c@2,0");
        changeDue(x, 0, 1, 10);
        for (int what : new int[] {Integer.MIN_VALUE, -1, 3, 100, Integer.MAX_VALUE}) {
            doc.due("change(" + what + ")", x.change(what), -1);
        }
    }

    private static void rowDue(TalkingPlots x, int people, int talk, int... row) {
        doc.due("TALK of row " + people, x.row(people, 100), talk);
        for (int place = 0; place < 7; place++) {
            doc.due("place " + place + " of row " + people, x.row(people, place), place < row.length ? row[place] : -4);
        }
    }

    private static void rows() {
        doc.says("A ROW of 2 to 7 PEOPLE side by side: the most TALK of neighbours");
        TalkingPlots x = Sentences.with(1, 3, 6, 12, 24, 48, 96, 192);
        doc.due("none", x.row(0, 100), -1000);
        doc.due("one", x.row(1, 100), -1000);
        rowDue(x, 3, 2, 0, 1);
        rowDue(x, 7, 3, 0, 1, 2);
        rowDue(x, 127, 2 + 5, 0, 1, 2, 3, 4, 5, 6);
        rowDue(x, 254, 6, 1, 2, 3, 4, 5, 6, 7);
        doc.due("eight", x.row(255, 100), -1000);
        rowDue(x, 0b10001, -3, 0, 4);
        x = Sentences.with(65535, 65535, 65535, 65535, 65535, 65535, 65535);
        rowDue(x, 127, 288, 0, 1, 2, 3, 4, 5, 6);
        x = Sentences.with(65535, 0, 65535, 0, 65535, 0, 65535);
        rowDue(x, 127, 3 * 48 - 16, 0, 2, 4, 6, 1, 3, 5);
    }

    private static void leastRow() {
        doc.says("the least row of those in which it is so");
        TalkingPlots x = Sentences.with(0, 0, 0, 0, 0, 0, 0);
        rowDue(x, 127, 0, 0, 1, 2, 3, 4, 5, 6);
        x = Sentences.with(1, 2, 1, 2);
        rowDue(x, 15, 4, 0, 2, 1, 3);
        x = Sentences.with(1, 3, 1);
        rowDue(x, 7, 5, 0, 2, 1);
        x = Sentences.with(3, 1, 2);
        rowDue(x, 7, 4, 1, 0, 2);
    }

    private static void promiseOfRow() {
        doc.says("A ROW of some told ones (bits, 2 to 7 of them), what 100 TALK, 101 in how many rows all WISHES hold,"
                + " else who is at place what (0 to 6); -2: one is not told; -4: no such place; -1000: no such ones.");
        TalkingPlots x = Sentences.with(1, 1, 1, 1, 1, 1, 1, 1);
        int[] people = {Integer.MIN_VALUE, -1, 0, 1, 128, 255, 65535, 65536, 65537, 65539, Integer.MIN_VALUE | 3, Integer.MAX_VALUE};
        for (int some : people) {
            for (int what : new int[] {0, 6, 100, 101}) {
                doc.due("row(" + some + ", " + what + ")", x.row(some, what), -1000);
            }
        }
        for (int what : new int[] {Integer.MIN_VALUE, -1, 7, 99, 102, Integer.MAX_VALUE}) {
            doc.due("row(3, " + what + ")", x.row(3, what), -1000);
        }
        for (int what : new int[] {0, 1, 100, 101}) {
            doc.due("one is not told: " + what, x.row(0b1000000000000001, what), -2);
            doc.due("none of them is told: " + what, x.row(0b1100000000000000, what), -2);
        }
        for (int size = 2; size <= 7; size++) {
            int some = (1 << size) - 1;
            doc.due("the last place of " + size, x.row(some, size - 1), size - 1);
            for (int what = size; what <= 6; what++) {
                doc.due("no such place in " + size, x.row(some, what), -4);
            }
        }
        x.person(15, 1, 1);
        doc.due("p told", x.row(0b1000000000000001, 1), 15);
    }

    private static void couplesDue(TalkingPlots x, int people, int talk, int... with) {
        doc.due("TALK of couples " + people, x.couples(people, 100), talk);
        for (int p = 0; p < with.length; p++) {
            doc.due("with " + p + " of " + people, x.couples(people, p), with[p]);
        }
    }

    private static void couples() {
        doc.says("COUPLES of 2 to 10 PEOPLE: the most TALK in twos, nobody in two, of twos whose TALK is above 0");
        TalkingPlots x = Sentences.with(1, 1, 15, 3, 3, 3, 3, 3, 3, 3, 3);
        doc.due("none", x.couples(0, 100), -1000);
        doc.due("one", x.couples(1, 100), -1000);
        couplesDue(x, 0b011, 3, 1, 0, -3);
        couplesDue(x, 0b101, 0, -2, -3, -2);
        couplesDue(x, 1023, 3 + 4 + 3 * 6, 1, 0, 3, 2, 5, 4, 7, 6, 9, 8);
        doc.due("eleven", x.couples(2047, 100), -1000);
        x = Sentences.with(1, 1, 1, 1, 1, 1, 1, 1, 1, 1);
        couplesDue(x, 1023, 15, 1, 0, 3, 2, 5, 4, 7, 6, 9, 8);
        x = Sentences.with(1, 2, 4, 8, 16, 32, 64, 128, 256, 512);
        couplesDue(x, 1023, 0, -2, -2, -2, -2, -2, -2, -2, -2, -2, -2);
        x = Sentences.with(7, 57);
        couplesDue(x, 3, 0, -2, -2);
        x = Sentences.with(7, 25);
        couplesDue(x, 3, 0, -2, -2);
        x = Sentences.with(7, 9);
        couplesDue(x, 3, 0, -2, -2);
        x = Sentences.with(3, 9);
        couplesDue(x, 3, 1, 1, 0);
    }

    private static void likeCouples() {
        doc.says("with whom one is (of like ones: by the lowest one with the lowest other, or with nobody only if he must)");
        couplesDue(Sentences.with(1, 1, 1), 7, 3, 1, 0, -2);
        couplesDue(Sentences.with(3, 3, 3, 3), 15, 12, 1, 0, 3, 2);
        couplesDue(Sentences.with(1, 2, 3, 3), 15, 6, -2, -2, 3, 2);
        couplesDue(Sentences.with(1, 3, 2), 7, 2, 1, 0, -2);
        couplesDue(Sentences.with(3, 1, 2), 7, 2, 1, 0, -2);
        couplesDue(Sentences.with(3, 7, 6, 1), 15, 7, 3, 2, 1, 0);
        couplesDue(Sentences.with(7, 1, 7), 7, 9, 2, -2, 0);
        couplesDue(Sentences.with(3, 1, 1, 2), 15, 5, 3, 2, 1, 0);
    }

    private static void promiseOfCouples() {
        doc.says("COUPLES of some told ones (bits, 2 to 10 of them), what 100 TALK, else with whom p (0 to 15) is (-2: with nobody);"
                + " -3: one is not told, p is none of them; -1000: no such ones.");
        TalkingPlots x = Sentences.with(1, 1, 1, 1, 1, 1, 1, 1, 1, 1, 1);
        int[] people = {Integer.MIN_VALUE, -1, 0, 1, 1024, 2047, 65535, 65536, 65539, Integer.MIN_VALUE | 3, Integer.MAX_VALUE};
        for (int some : people) {
            for (int what : new int[] {0, 15, 100}) {
                doc.due("couples(" + some + ", " + what + ")", x.couples(some, what), -1000);
            }
        }
        for (int what : new int[] {Integer.MIN_VALUE, -1, 16, 99, 101, Integer.MAX_VALUE}) {
            doc.due("couples(3, " + what + ")", x.couples(3, what), -1000);
        }
        for (int what : new int[] {0, 15, 100}) {
            doc.due("one is not told: " + what, x.couples(0b1000000000000001, what), -3);
        }
        for (int what = 2; what < 16; what++) {
            doc.due("none of them: " + what, x.couples(3, what), -3);
        }
        doc.due("with nobody", x.couples(7, 2), -2);
        x.person(15, 1, 1);
        doc.due("with the last", x.couples(0b1000000000000001, 0), 15);
        doc.due("the last", x.couples(0b1000000000000001, 15), 0);
    }

    private static void stretchDue(TalkingPlots x, int y, int from, int to, int much) {
        doc.due("from in " + y, x.good(y, 0), from);
        doc.due("to in " + y, x.good(y, 1), to);
        doc.due("how much in " + y, x.good(y, 2), much);
    }

    private static void good() {
        doc.says("GOOD: of a row Y of THE YARD's PLOTS 0 to 9, each with the TALK of who lies there with all BESIDE him:"
                + " the stretch whose TALK added up is most");
        TalkingPlots x = Sentences.laid("a@8,0;b@9,0", 3, 3, 3);
        stretchDue(x, 0, 0, 9, 12);
        Checks.burials(x, "a@9,5;b@9,4");
        stretchDue(x, 5, 0, 9, 6);
        stretchDue(x, 4, 0, 9, 6);
        stretchDue(x, 3, 0, 0, 0);
        Checks.burials(x, "a@0,5;b@0,4;c@9,3");
        stretchDue(x, 5, 0, 0, 6);
        stretchDue(x, 3, 0, 0, 0);
        x = Sentences.laid("a@0,2;b@0,3;c@3,2;d@4,2;e@6,2;f@6,3", 1, 1, 1, 6, 3, 3);
        stretchDue(x, 2, 5, 6, 6);
        stretchDue(x, 3, 0, 6, 9);
    }

    private static void below0() {
        doc.says("(at least one PLOT; empty ones 0;");
        TalkingPlots x = Sentences.with(1, 2, 4, 8, 16, 32, 64, 128, 256, 512, 1024);
        stretchDue(x, 0, 0, 0, 0);
        Checks.burials(x, "a@0,2;b@1,2;c@2,2;d@3,2;e@4,2;f@5,2;g@6,2;h@7,2;i@8,2;j@9,2");
        stretchDue(x, 2, 0, 0, -2);
        Checks.burials(x, "k@0,1");
        stretchDue(x, 2, 9, 9, -2);
        Checks.burials(x, "k@9,1;j!");
        stretchDue(x, 2, 9, 9, 0);
        Checks.burials(x, "j@9,2;k@9,3;e!");
        stretchDue(x, 2, 4, 4, 0);
        Checks.burials(x, "a-A;b-B;c-C;d-D;f-F;g-G;h-H;i-I;j-J;k-K");
        stretchDue(x, 2, 0, 0, 0);
    }

    private static void likeStretches() {
        doc.says("of like ones the first, then the shortest): from, to, how much.");
        TalkingPlots x = Sentences.laid("a@3,2;b@4,2", 3, 3, 3, 15, 12);
        stretchDue(x, 2, 0, 4, 12);
        Checks.burials(x, "e@5,2;c@7,2;d@7,3");
        stretchDue(x, 2, 0, 4, 6 + 2);
        doc.due("what is behind it", x.talk(1, 4) + x.talk(2, 3), 0);
        Checks.burials(x, "d-C;d-D");
        stretchDue(x, 2, 0, 7, 6 + 2 - 4 + 6);
        Checks.burials(x, "a@0,2;e@1,2;b@8,2;c@9,2;d!");
        stretchDue(x, 2, 2, 9, 12);
        Checks.burials(x, "a!;b!;c!;e!");
        stretchDue(x, 2, 0, 0, 0);
        twoAlike();
    }

    /** Two stretches that are alike, with less than nothing between them. */
    private static void twoAlike() {
        TalkingPlots x = Sentences.laid("a@1,2;b@1,3;c@3,2;d@4,2;e@7,2;f@7,3", 3, 3, 3, 12, 3, 3);
        stretchDue(x, 2, 0, 1, 6);
        Checks.burials(x, "a+C;b+C");
        stretchDue(x, 2, 0, 1, 9);
        Checks.burials(x, "a-C;b-C;e+C;f+C");
        stretchDue(x, 2, 5, 7, 9);
    }

    private static void promiseOfGood() {
        doc.says("GOOD in row y (0 to 5), what 0 from, 1 to, 2 how much; -1000: no such ones.");
        TalkingPlots x = Sentences.laid("a@8,0;b@9,0", 3, 3, 3);
        for (int what = 0; what <= 2; what++) {
            for (int y : new int[] {Integer.MIN_VALUE, -1, 6, Integer.MAX_VALUE}) {
                doc.due("good(" + y + ", " + what + ")", x.good(y, what), -1000);
            }
            doc.due("good(5, " + what + ")", x.good(5, what), 0);
        }
        for (int what : new int[] {Integer.MIN_VALUE, -1, 3, 100, Integer.MAX_VALUE}) {
            doc.due("good(0, " + what + ")", x.good(0, what), -1000);
        }
    }
}
