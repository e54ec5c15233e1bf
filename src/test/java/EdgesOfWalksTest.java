import java.io.IOException;

/** HEARD, CIRCLES, FROM, EAVESDROPPING, SILENT, VISITORS, ALIKE, RANKS: the boundary cases, sentence by sentence. */
public final class EdgesOfWalksTest {
    /** Sixteen who leave no free PLOT with nobody NEXT. */
    private static final String EVERYWHERE =
            "a@0,2;b@1,0;c@1,4;d@1,5;e@2,1;f@3,3;g@4,0;h@4,5;i@5,2;j@6,4;k@7,0;l@7,1;m@8,3;n@8,5;o@9,1;p@9,3";
    /** Sixteen in one line that winds, each BESIDE the one ahead of him alone. */
    private static final String WINDING =
            "a@0,0;b@1,0;c@2,0;d@3,0;e@4,0;f@5,0;g@6,0;h@7,0;i@8,0;j@9,0;k@9,1;l@9,2;m@8,2;n@7,2;o@6,2;p@5,2";
    private static Sentences doc;

    public static void main(String[] args) throws IOException {
        doc = new Sentences();
        heard();
        whoHeard();
        promiseOfHeard();
        circles();
        promiseOfCircles();
        from();
        promiseOfFrom();
        thread();
        threadLeftOut();
        leastPlaces();
        promiseOfThread();
        silent();
        blocks();
        promiseOfSilent();
        visitors();
        visited();
        promiseOfVisit();
        alike();
        promiseOfAlike();
        ranks();
        doc.end();
    }

    private static TalkingPlots sixteen(String burials) {
        TalkingPlots x = new TalkingPlots();
        for (int p = 0; p < 16; p++) {
            x.person(p, 1 << p, 50);
        }
        doc.burials(x, burials, 16);
        return x;
    }

    private static void heardDue(TalkingPlots x, int topic, int nights, int who) {
        doc.due("NIGHTS of " + topic, x.heard(topic, 0), nights);
        doc.due("who of " + topic, x.heard(topic, 1), who);
    }

    private static void heard() {
        doc.says("HEARD: a TOPIC goes each NIGHT from all who have it to those BESIDE them: behind how many NIGHTS all have it who ever will");
        TalkingPlots x = sixteen(WINDING);
        heardDue(x, 0, 15, 65535);
        heardDue(x, 15, 15, 65535);
        heardDue(x, 7, 8, 65535);
        Checks.burials(x, "p+A");
        heardDue(x, 0, 7, 65535);
        Checks.burials(x, "h!");
        heardDue(x, 0, 7, 0b1111111101111111);
        heardDue(x, 1, 5, 0b1111111);
        heardDue(x, 7, 0, 128);
        heardDue(new TalkingPlots(), 0, 0, 0);
        x = Sentences.laid("a@9,0;b@0,1", 1, 2);
        heardDue(x, 0, 0, 1);
        x = Sentences.laid("a@0,0;b@0,1", 1, 1);
        heardDue(x, 0, 0, 3);
        heardDue(x, 1, 0, 0);
        x.person(1, 0, 0);
        Checks.burials(x, "b@0,1");
        heardDue(x, 0, 1, 3);
    }

    private static void whoHeard() {
        doc.says("who they are (bits, those too who have it from the first, laid or not)");
        TalkingPlots x = Sentences.with(1, 0, 1, 1);
        heardDue(x, 0, 0, 0b1101);
        Checks.burials(x, "a@0,0;b@0,1");
        heardDue(x, 0, 1, 0b1111);
        Checks.burials(x, "a!");
        heardDue(x, 0, 0, 0b1101);
        x = Sentences.with(32768);
        x.person(15, 32768, 0);
        heardDue(x, 15, 0, 32769);
    }

    private static void promiseOfHeard() {
        doc.says("HEARD: a TOPIC (0 to 15), what 0 NIGHTS, 1 who (bits); NONE: no such ones.");
        TalkingPlots x = Sentences.with(65535);
        for (int topic : new int[] {Integer.MIN_VALUE, -1, 16, Integer.MAX_VALUE}) {
            heardDue(x, topic, -1, -1);
        }
        for (int topic = 0; topic < 16; topic++) {
            heardDue(x, topic, 0, 1);
        }
        for (int what : new int[] {Integer.MIN_VALUE, -1, 2, 100, Integer.MAX_VALUE}) {
            doc.due("heard(0, " + what + ")", x.heard(0, what), -1);
        }
    }

    private static void circles() {
        doc.says("CIRCLES: those laid that are BESIDE each other, directly or by others: how many; one's (bits).");
        TalkingPlots x = sixteen(WINDING);
        doc.due("one of sixteen", x.circles(100), 1);
        doc.due("the first one's", x.circles(0), 65535);
        doc.due("the last one's", x.circles(15), 65535);
        Checks.burials(x, "h!");
        doc.due("cut in two", x.circles(100), 2);
        doc.due("the lower part", x.circles(6), 0b1111111);
        doc.due("the higher part", x.circles(8), 0b1111111100000000);
        doc.due("the one taken up", x.circles(7), 0);
        x = sixteen("a@0,0;b@2,0;c@4,0;d@6,0;e@8,0;f@1,1;g@3,1;h@5,1;i@7,1;j@9,1;k@0,2;l@2,2;m@4,2;n@6,2;o@8,2;p@1,3");
        doc.due("sixteen, all aslant", x.circles(100), 16);
        for (int p = 0; p < 16; p++) {
            doc.due("one's alone", x.circles(p), 1 << p);
        }
        x = Sentences.laid("a@9,0;b@0,1", 1, 1, 1, 1);
        doc.due("not across the wall", x.circles(100), 2);
        Checks.burials(x, "c@9,1;d@0,2");
        doc.due("by turns in two", x.circles(100), 2);
        doc.due("a and c", x.circles(2), 0b0101);
        doc.due("b and d", x.circles(3), 0b1010);
    }

    private static void promiseOfCircles() {
        doc.says("CIRCLES, what 100 how many, else one's (bits; not laid: 0); NONE: no such ones, not told.");
        TalkingPlots x = Sentences.with(1);
        doc.due("none", x.circles(100), 0);
        doc.due("not laid", x.circles(0), 0);
        for (int what : new int[] {Integer.MIN_VALUE, -1, 1, 15, 16, 99, 101, Integer.MAX_VALUE}) {
            doc.due("circles(" + what + ")", x.circles(what), -1);
        }
        Checks.burials(x, "a@0,0");
        doc.due("one", x.circles(100), 1);
        doc.due("his own", x.circles(0), 1);
    }

    private static void from() {
        doc.says("FROM one TO another one along those BESIDE each other: how many steps.");
        TalkingPlots x = sixteen(WINDING);
        for (int p = 0; p < 16; p++) {
            doc.due("from a to " + p, x.from(0, p), p);
            doc.due("from " + p + " to p", x.from(p, 15), 15 - p);
        }
        Checks.burials(x, "a@8,1");
        doc.due("a shorter way", x.from(9, 12), 3);
        doc.due("by a", x.from(8, 12), 2);
        doc.due("not across the wall", Sentences.laid("a@9,0;b@0,1", 1, 1).from(0, 1), -2);
        doc.due("not aslant", Sentences.laid("a@1,0;b@0,1", 1, 1).from(0, 1), -2);
    }

    private static void promiseOfFrom() {
        doc.says("FROM a told one TO another told one: steps; -2: not laid, no way; NONE: no such ones.");
        TalkingPlots x = Sentences.with(1, 1);
        doc.due("neither is laid", x.from(0, 1), -2);
        doc.due("himself, not laid", x.from(0, 0), -2);
        Checks.burials(x, "a@0,0");
        doc.due("to one not laid", x.from(0, 1), -2);
        doc.due("from one not laid", x.from(1, 0), -2);
        doc.due("himself", x.from(0, 0), 0);
        Checks.burials(x, "b@0,2");
        doc.due("no way", x.from(0, 1), -2);
        Checks.burials(x, "b@0,1");
        doc.due("one step", x.from(0, 1), 1);
        for (int p : new int[] {Integer.MIN_VALUE, -1, 2, 15, 16, Integer.MAX_VALUE}) {
            doc.due("from(" + p + ", 0)", x.from(p, 0), -1);
            doc.due("from(0, " + p + ")", x.from(0, p), -1);
            doc.due("from(" + p + ", " + p + ")", x.from(p, p), -1);
        }
    }

    private static int ask(int n, int what, int... sayings) {
        TalkingPlots x = new TalkingPlots();
        StringBuilder text = new StringBuilder();
        for (int said : sayings) {
            text.append((char) (said >> 8)).append((char) (said & 255));
        }
        Checks.feed(x, text.toString());
        return x.thread(n, what);
    }

    private static void threadDue(int[] places, int... sayings) {
        int n = sayings.length;
        doc.due("how many", ask(n, 100, sayings), places.length);
        for (int i = 0; i < 20; i++) {
            doc.due("place " + i, ask(n, i, sayings), i < places.length ? places[i] : -4);
        }
    }

    private static int[] places(int... all) {
        return all;
    }

    private static void thread() {
        doc.says("EAVESDROPPING: 1 to 20 sayings, each TOPICS (two bytes of bits, the highest first)");
        threadDue(places(0), 0);
        threadDue(places(0), 65535);
        threadDue(places(0), 256, 1);
        threadDue(places(0, 1), 256, 256);
        threadDue(places(0, 1), 257, 1);
        threadDue(places(0), 32768, 128);
        threadDue(places(0), 256, 128);
        for (int topic = 0; topic < 16; topic++) {
            threadDue(places(0), 1 << topic, 65535 ^ 1 << topic);
            threadDue(places(0, 1), 1 << topic, 1 << topic);
        }
        threadDue(places(0, 2), 32768, 128, 32768);
        int[] alike = new int[20];
        int[] all = new int[20];
        for (int i = 0; i < 20; i++) {
            alike[i] = 1 << 15;
            all[i] = i;
        }
        threadDue(all, alike);
        doc.due("none", ask(0, 100, alike), -1);
        doc.due("21", ask(21, 100, alike), -1);
        doc.due("the first alone", ask(1, 100, alike), 1);
        doc.due("19 of them", ask(19, 100, alike), 19);
        doc.due("the last of 19", ask(19, 18, alike), 18);
        doc.due("behind the last of 19", ask(19, 19, alike), -4);
    }

    private static void threadLeftOut() {
        doc.says("the longest THREAD: sayings in their order, any left out, each with a TOPIC that the one ahead of it in the THREAD has: how many");
        threadDue(places(0, 2, 3, 4), 1, 2, 3, 6, 4);
        threadDue(places(0), 1, 2, 4, 8);
        threadDue(places(0, 3), 1, 2, 4, 1);
        threadDue(places(1, 2, 3), 1, 2, 2, 2);
        threadDue(places(0), 0, 0, 0);
        threadDue(places(1, 3), 0, 1, 0, 1);
        threadDue(places(0, 1, 2), 1, 3, 2);
        threadDue(places(0, 1), 3, 1, 2);
        threadDue(places(0, 1), 2, 2, 1);
    }

    private static void leastPlaces() {
        doc.says("the least row of places");
        threadDue(places(0, 2), 1, 2, 1, 2);
        threadDue(places(0, 3), 2, 1, 1, 2);
        threadDue(places(0, 1, 4), 3, 1, 2, 2, 1);
        threadDue(places(0, 2, 3, 5), 3, 1, 2, 2, 1, 2);
        threadDue(places(0, 1, 3), 1, 3, 4, 2, 1);
        threadDue(places(0), 4, 2, 1);
    }

    private static void promiseOfThread() {
        doc.says("EAVESDROPPING by the first 2 n bytes of the tape (n 1 to 20; empty then), what 100 how many,"
                + " else the place (0 on) of the saying at place what (0 to 19) of the THREAD; -4: no such place;"
                + " NONE: no such ones, it has not so many (the tape stays).");
        TalkingPlots x = new TalkingPlots();
        doc.due("of an empty tape", x.thread(1, 100), -1);
        x.feed(0, 0, 0, 0, 0);
        doc.due("22 bytes of 20", x.thread(11, 100), -1);
        doc.due("the 20 stay", x.count(5), 20);
        doc.due("20 bytes of 20", x.thread(10, 100), 1);
        doc.due("empty then", x.count(5), 0);
        for (int i = 0; i < 13; i++) {
            x.feed(-1, -1, -1, -1, -1);
        }
        int[] wrong = {Integer.MIN_VALUE, -1, 0, 21, 1 << 30, 1 << 31 | 1, Integer.MAX_VALUE, 0x40000001, 0x80000001};
        for (int n : wrong) {
            doc.due("thread(" + n + ", 100)", x.thread(n, 100), -1);
            doc.due("thread(" + n + ", 0)", x.thread(n, 0), -1);
        }
        for (int what : new int[] {Integer.MIN_VALUE, -4, -1, 20, 99, 101, Integer.MAX_VALUE}) {
            doc.due("thread(20, " + what + ")", x.thread(20, what), -1);
        }
        doc.due("the 260 stay", x.count(5), 260);
        doc.due("the last of 20", x.thread(20, 19), 19);
        doc.due("empty of all", x.count(5), 0);
        x.feed(-1, 0, 0, 0, 0);
        doc.due("no such place", x.thread(3, 2), -4);
        doc.due("empty then, too", x.count(5), 0);
        x.feed(-1, 0, 0, 0, 0);
        doc.due("0 on", x.thread(1, 0), 0);
    }

    private static void silentDue(TalkingPlots x, int many, int lowest, int block) {
        doc.due("how many", x.silent(0), many);
        doc.due("the lowest", x.silent(1), lowest);
        doc.due("the largest block", x.silent(2), block);
    }

    private static void silent() {
        doc.says("SILENT: free PLOTS with nobody NEXT");
        TalkingPlots x = Sentences.with(1, 1);
        silentDue(x, 60, 0, 60);
        Checks.burials(x, "a@0,0");
        silentDue(x, 57, 2, 59);
        Checks.burials(x, "a@9,0");
        silentDue(x, 57, 0, 59);
        Checks.burials(x, "a@9,5");
        silentDue(x, 57, 0, 59);
        Checks.burials(x, "a@1,0");
        silentDue(x, 56, 3, 59);
        Checks.burials(x, "a@1,1");
        silentDue(x, 55, 0, 59);
        Checks.burials(x, "b@0,0");
        silentDue(x, 54, 2, 58);
        silentDue(sixteen(EVERYWHERE), 0, -2, 44);
        TalkingPlots fewer = sixteen(EVERYWHERE);
        Checks.burials(fewer, "p!");
        silentDue(fewer, 1, 49, 45);
    }

    private static void blocks() {
        doc.says("the largest block of free PLOTS that hang together.");
        TalkingPlots x = Sentences.with(1, 1, 1, 1, 1, 1);
        Checks.burials(x, "a@1,0;b@0,1");
        doc.due("a corner alone", x.silent(2), 57);
        Checks.burials(x, "a@4,0;b@4,1;c@4,2;d@4,3;e@4,4;f@4,5");
        doc.due("24 and 30", x.silent(2), 30);
        Checks.burials(x, "f!");
        doc.due("a gap", x.silent(2), 55);
        Checks.burials(x, "f@5,5");
        doc.due("the gap leads beyond it no more", x.silent(2), 29);
        TalkingPlots wound = sixteen("a@3,0;b@3,1;c@3,2;d@3,3;e@3,4;f@3,5;g@4,0;h@5,0;i@6,0;j@7,0;k@8,0;l@9,0;m@9,1;n@9,2;o@9,3;p@9,4");
        doc.due("18 on the left, 26 on the right", wound.silent(2), 26);
    }

    private static void promiseOfSilent() {
        doc.says("SILENT, what 0 how many, 1 the lowest (10 Y and X; -2: none), 2 PLOTS of the largest block of free ones; NONE: no such what.");
        TalkingPlots x = Sentences.laid("a@0,0;b@2,0;c@4,0;d@6,0;e@8,0;f@9,1", 1, 1, 1, 1, 1, 1);
        doc.due("10 Y and X", x.silent(1), 11);
        for (int what : new int[] {Integer.MIN_VALUE, -1, 3, 100, Integer.MAX_VALUE}) {
            doc.due("silent(" + what + ")", x.silent(what), -1);
        }
        doc.due("none", sixteen(EVERYWHERE).silent(1), -2);
    }

    private static void visitors() {
        doc.says("VISITORS walk from PLOT (0, 0), if that is free, by free PLOTS that are NEXT:"
                + " the fewest steps to a PLOT NEXT to whom they would hear");
        TalkingPlots x = Sentences.laid("a@0,0;b@1,0;c@9,5", 1, 1, 1);
        doc.due("not free, himself", x.visit(0), -2);
        doc.due("not free, NEXT", x.visit(1), -2);
        doc.due("not free, far", x.visit(2), -2);
        Checks.burials(x, "a@0,1");
        doc.due("NEXT below", x.visit(0), 0);
        doc.due("NEXT on the right", x.visit(1), 0);
        doc.due("shut in", x.visit(2), -2);
        Checks.burials(x, "a@1,1");
        doc.due("aslant", x.visit(0), 1);
        doc.due("to the other corner", x.visit(2), 13);
        Checks.burials(x, "c@9,0");
        doc.due("round both", x.visit(2), 12);
        Checks.burials(x, "a!;b!");
        doc.due("along the wall", x.visit(2), 8);
        windingWay();
    }

    private static void windingWay() {
        TalkingPlots x = sixteen("a@1,0;b@1,1;c@1,2;d@1,3;e@1,4;f@3,5;g@3,4;h@3,3;i@3,2;j@3,1;k@5,0;l@5,1;m@5,2;n@5,3;o@5,4;p@9,0");
        doc.due("round three walls", x.visit(15), 28);
        doc.due("ahead of the first", x.visit(0), 0);
        doc.due("below the first", x.visit(4), 4);
        doc.due("the third, from the left", x.visit(10), 14);
    }

    private static void visited() {
        doc.says("who of those laid can be come to so (bits)");
        TalkingPlots x = Sentences.with(1, 1, 1, 1);
        doc.due("nobody is laid", x.visited(), 0);
        Checks.burials(x, "a@0,1;b@1,0;c@9,5");
        doc.due("shut in by two", x.visited(), 3);
        Checks.burials(x, "b@1,1");
        doc.due("all three", x.visited(), 7);
        Checks.burials(x, "d@0,0");
        doc.due("not free", x.visited(), 0);
        Checks.burials(x, "d@8,5;b@9,4;a@5,5");
        doc.due("c is hidden by b and d", x.visited(), 0b1011);
        doc.says("VISITORS: who can be come to (bits).");
        doc.due("of a new one", new TalkingPlots().visited(), 0);
        doc.due("all sixteen", sixteen(EVERYWHERE).visited(), 65535);
    }

    private static void promiseOfVisit() {
        doc.says("VISITORS to a told one: steps; -2: not laid, no way; NONE: no such one.");
        TalkingPlots x = Sentences.with(1, 1, 1);
        for (int p : new int[] {Integer.MIN_VALUE, -1, 3, 15, 16, Integer.MAX_VALUE}) {
            doc.due("visit(" + p + ")", x.visit(p), -1);
        }
        doc.due("not laid", x.visit(0), -2);
        Checks.burials(x, "a@9,5;b@9,4;c@8,5");
        doc.due("no way", x.visit(0), -2);
        doc.due("b", x.visit(1), 12);
        doc.due("c", x.visit(2), 12);
    }

    private static void alike() {
        doc.says("ALIKE: who of the told others is most like one: fewest TOPICS that but one of them has (of like ones the lowest); how many.");
        TalkingPlots x = Sentences.with(0, 65535);
        alikeDue(x, 0, 1, 16);
        alikeDue(x, 1, 0, 16);
        x.person(2, 7, 1);
        alikeDue(x, 0, 2, 3);
        x.person(3, 7, 1);
        alikeDue(x, 0, 2, 3);
        alikeDue(x, 2, 3, 0);
        alikeDue(x, 3, 2, 0);
        x.person(15, 56, 1);
        alikeDue(x, 0, 2, 3);
        x.person(14, 0, 1);
        alikeDue(x, 0, 14, 0);
        alikeDue(x, 1, 2, 13);
    }

    private static void alikeDue(TalkingPlots x, int p, int who, int many) {
        doc.due("like " + p, x.alike(p, 0), who);
        doc.due("how many of " + p, x.alike(p, 1), many);
    }

    private static void promiseOfAlike() {
        doc.says("ALIKE to a told one, what 0 who (-2: no other one is told), 1 how many TOPICS (-2 likewise); NONE: no such ones.");
        TalkingPlots x = new TalkingPlots();
        alikeDue(x, 0, -1, -1);
        x.person(0, 65535, 1);
        alikeDue(x, 0, -2, -2);
        x.person(15, 0, 1);
        alikeDue(x, 0, 15, 16);
        alikeDue(x, 15, 0, 16);
        for (int p : new int[] {Integer.MIN_VALUE, -1, 1, 14, 16, Integer.MAX_VALUE}) {
            alikeDue(x, p, -1, -1);
        }
        for (int what : new int[] {Integer.MIN_VALUE, -1, 2, 100, Integer.MAX_VALUE}) {
            doc.due("alike(0, " + what + ")", x.alike(0, what), -1);
        }
    }

    private static void ranks() {
        doc.says("RANKS: by MOOD, the highest first (of like ones the lowest): at which place one is.");
        TalkingPlots x = new TalkingPlots();
        for (int p = 15; p >= 0; p--) {
            x.person(p, 0, 7);
            doc.due("the lowest of like ones", x.personIs(p, 4), 0);
            doc.due("the highest of like ones", x.personIs(15, 4), 15 - p);
        }
        x.person(8, 0, 8);
        doc.due("the highest MOOD", x.personIs(8, 4), 0);
        doc.due("a", x.personIs(0, 4), 1);
        doc.due("h", x.personIs(7, 4), 8);
        doc.due("j", x.personIs(9, 4), 9);
        x.person(8, 0, 6);
        doc.due("the lowest MOOD", x.personIs(8, 4), 15);
        doc.due("p then", x.personIs(15, 4), 14);
        TalkingPlots alone = new TalkingPlots();
        alone.person(15, 0, 0);
        doc.due("one alone", alone.personIs(15, 4), 0);
        alone.person(3, 0, 0);
        doc.due("a like one ahead of him", alone.personIs(15, 4), 1);
    }
}
