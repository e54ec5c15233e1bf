import java.io.IOException;
import java.util.LinkedHashMap;
import java.util.Map;
import java.util.function.Consumer;

/** A new object, who is told, the tape, what is counted, and calls that are refused: the boundary cases, sentence by sentence. */
public final class EdgesOfCallsTest {
    private static final int[] FAR = {Integer.MIN_VALUE, Integer.MIN_VALUE + 1, -1000, -1, 1000, Integer.MAX_VALUE - 1, Integer.MAX_VALUE};
    private static Sentences doc;

    public static void main(String[] args) throws IOException {
        doc = new Sentences();
        none();
        newObject();
        ofItsOwn();
        person();
        notLaidThen();
        feed();
        highestFirst();
        personIs();
        talk();
        check();
        checkOfNone();
        count();
        calls512();
        refused();
        nothingAsked();
        farNumbers();
        doc.end();
    }

    private static void none() {
        doc.says("The constants: `NONE = -1`: There is none.");
        doc.due("NONE", TalkingPlots.NONE, -1);
    }

    private static void newObject() {
        doc.says("No PEOPLE, LAW, WISHES; THE SEED 1.");
        TalkingPlots x = new TalkingPlots();
        int[] counts = {0, 0, 0, 0, 0, 0, 1, 0};
        for (int what = 0; what < 8; what++) {
            doc.due("count(" + what + ")", x.count(what), counts[what]);
        }
        for (int p = 0; p < 16; p++) {
            doc.due("not told: " + p, x.personIs(p, 0), -1);
        }
        for (int plot = 20; plot < 80; plot++) {
            doc.due("count(" + plot + ")", x.count(plot), -2);
        }
        doc.due("WISHES that hold", x.hold(0), 0);
        doc.due("none was KEPT", x.undo(), false);
        doc.due("a NIGHT", x.nights(1), 0);
    }

    private static void ofItsOwn() {
        doc.says("All memory is the yard's own.");
        TalkingPlots one = new TalkingPlots();
        TalkingPlots other = new TalkingPlots();
        crowd(one);
        for (int what = 0; what <= 7; what++) {
            doc.due("of the other one, count(" + what + ")", other.count(what), what == 6 ? 1 : 0);
        }
        doc.due("nothing KEPT in the other one", other.undo(), false);
        doc.due("no WISHES in the other one", other.hold(1), -2);
        doc.changesNothing("what another one does", EdgesOfCallsTest::crowd, x -> {
            full(other);
            other.nights(5);
            other.tried(5, 0);
            other.undo();
        });
    }

    private static void person() {
        doc.says("One of PEOPLE (in place of the one before; not laid): true; false: no such ones.");
        int[][] wrong = {{-1, 0, 0}, {16, 0, 0}, {0, -1, 0}, {0, 65536, 0}, {0, 0, -1}, {0, 0, 100}};
        for (int[] w : wrong) {
            TalkingPlots x = new TalkingPlots();
            doc.due("person(" + w[0] + ", " + w[1] + ", " + w[2] + ")", x.person(w[0], w[1], w[2]), false);
            doc.due("nobody is told", x.count(1), 0);
        }
        for (int far : FAR) {
            TalkingPlots x = new TalkingPlots();
            doc.due("p " + far, x.person(far, 0, 0), false);
            doc.due("mood " + far, x.person(0, 0, far), false);
            doc.due("topics " + far, x.person(0, far, 0), far == 1000);
        }
        int[][] right = {{0, 0, 0}, {15, 0, 0}, {0, 65535, 0}, {0, 0, 99}, {15, 65535, 99}};
        for (int[] r : right) {
            TalkingPlots x = new TalkingPlots();
            doc.due("person(" + r[0] + ", " + r[1] + ", " + r[2] + ")", x.person(r[0], r[1], r[2]), true);
            doc.due("TOPICS", x.personIs(r[0], 0), r[1]);
            doc.due("MOOD", x.personIs(r[0], 1), r[2]);
            doc.due("told", x.count(1), 1 << r[0]);
        }
    }

    private static void notLaidThen() {
        doc.says("(in place of the one before; not laid)");
        TalkingPlots x = Sentences.laid("a@3,3;b@3,4", 1, 3);
        doc.due("a again", x.person(0, 5, 7), true);
        doc.due("TOPICS", x.personIs(0, 0), 5);
        doc.due("MOOD", x.personIs(0, 1), 7);
        doc.due("not laid", x.personIs(0, 2), -2);
        doc.due("his PLOT is free", x.count(53), -2);
        doc.due("nobody is BESIDE b", x.personIs(1, 3), 0);
        doc.due("b is laid", x.count(2), 2);
        doc.burials(x, "b@3,3", 1);
        doc.due("false leaves b there", x.person(1, 1, 100), false);
        doc.due("b is there", x.count(53), 1);
    }

    private static void feed() {
        doc.says("Twenty bytes come behind the tape, the highest of each int first: how many it has; NONE if that would be more than 260.");
        TalkingPlots x = new TalkingPlots();
        for (int i = 1; i <= 13; i++) {
            doc.due("feed " + i, x.feed(0x67392831, 0x3D31297A, 0, 0, 0), 20 * i);
        }
        for (int i = 0; i < 3; i++) {
            doc.due("that would be 280", x.feed(-1, -1, -1, -1, -1), -1);
            doc.due("260 stay", x.count(5), 260);
        }
        doc.due("the first bytes stay", x.law(7), 1);
        doc.due("empty then", x.count(5), 0);
        doc.due("fed again", x.feed(0, 0, 0, 0, 0), 20);
        TalkingPlots y = Sentences.with(0);
        Checks.feed(y, Checks.again("a!;a=a;a+A;a-A;a!!aa", "", 13));
        doc.due("260", y.count(5), 260);
        doc.due("still the first 20", y.burials(20), -1017);
    }

    private static void highestFirst() {
        doc.says("the highest of each int first");
        TalkingPlots x = new TalkingPlots();
        for (int p = 0; p < 16; p++) {
            x.person(p, 0, p + 1);
        }
        x.feed(0x01020304, 0x05060708, 0x090A0B0C, 0x0D0E0F10, 0x11121314);
        doc.due("1 to 16", x.check(16), -1);
        x.feed(0x01020304, 0x05060708, 0x090A0B0C, 0x0D0E1011, 0x11121314);
        doc.due("the 15th", x.check(16), 14);
        x.feed(0x81020304, 0, 0, 0, 0);
        doc.due("a byte above 127", x.check(1), 0);
        x.feed(0x80000001, 0x80010000, 0, 0, 0);
        doc.due("two bytes each", x.thread(3, 1), 2);
        x.feed(0, 0, 0, 0, 0x00010001);
        doc.due("the last two", x.thread(10, 0), 8);
    }

    private static void personIs() {
        doc.says("Of a told one, what 0 TOPICS (bits), 1 MOOD, 2 the PLOT (10 Y and X; not laid: -2), 3 who is BESIDE him (bits),"
                + " 4 RANKS (0 on); NONE for others.");
        TalkingPlots x = new TalkingPlots();
        x.person(0, 65535, 99);
        x.person(15, 0, 0);
        int[] first = {65535, 99, -2, 0, 0};
        int[] last = {0, 0, -2, 0, 1};
        for (int what = 0; what <= 4; what++) {
            doc.due("a, " + what, x.personIs(0, what), first[what]);
            doc.due("p, " + what, x.personIs(15, what), last[what]);
            for (int p : new int[] {Integer.MIN_VALUE, -1, 1, 14, 16, Integer.MAX_VALUE}) {
                doc.due("personIs(" + p + ", " + what + ")", x.personIs(p, what), -1);
            }
        }
        for (int what : new int[] {Integer.MIN_VALUE, -1, 5, 100, Integer.MAX_VALUE}) {
            doc.due("personIs(0, " + what + ")", x.personIs(0, what), -1);
        }
        Checks.burials(x, "a@9,5;p@9,4");
        doc.due("the last PLOT", x.personIs(0, 2), 59);
        doc.due("p is BESIDE a", x.personIs(0, 3), 32768);
        doc.due("a is BESIDE p", x.personIs(15, 3), 1);
        for (int p = 1; p < 5; p++) {
            x.person(p, 0, 0);
        }
        Checks.burials(x, "a@4,4;b@3,4;c@5,4;d@4,3;e@4,5");
        doc.due("four are BESIDE a", x.personIs(0, 3), 0b11110);
    }

    private static void talk() {
        doc.says("TALK of two told ones; -1000: no such ones, the same.");
        TalkingPlots x = Sentences.with(3, 3);
        doc.due("talk(0, 1)", x.talk(0, 1), 6);
        doc.due("the same", x.talk(0, 0), -1000);
        doc.due("the same, not told", x.talk(2, 2), -1000);
        for (int p : new int[] {Integer.MIN_VALUE, -1, 2, 15, 16, Integer.MAX_VALUE}) {
            doc.due("talk(" + p + ", 0)", x.talk(p, 0), -1000);
            doc.due("talk(0, " + p + ")", x.talk(0, p), -1000);
        }
        x.person(15, 4, 0);
        doc.due("with the last", x.talk(0, 15), -3);
    }

    private static void check() {
        doc.says("CHECK: MOODS of PEOPLE: right, or the first that is not so.");
        TalkingPlots x = new TalkingPlots();
        for (int p = 0; p < 16; p++) {
            x.person(p, 0, 'a');
        }
        for (int p = 0; p < 16; p++) {
            Checks.feed(x, Checks.again("a", "", p) + "b");
            doc.due("all ahead of it are right: " + p, x.check(p), -1);
            Checks.feed(x, Checks.again("a", "", p) + "b");
            doc.due("it is not: " + p, x.check(p + 1), p);
            Checks.feed(x, Checks.again("a", "", p) + "b" + "`");
            doc.due("the first that is not: " + p, x.check(16), p);
        }
    }

    private static void checkOfNone() {
        doc.says("CHECK by the first n bytes of the tape (0 to 16; empty then; of those not told 0): NONE: right;"
                + " else the first that is not so; -2: no such n, it has not so many (the tape stays).");
        TalkingPlots x = new TalkingPlots();
        doc.due("none of none", x.check(0), -1);
        doc.due("one of none", x.check(1), -2);
        x.feed(0, 0, 0, 0, 0);
        for (int n : new int[] {Integer.MIN_VALUE, -1, 17, 20, Integer.MAX_VALUE}) {
            doc.due("check(" + n + ")", x.check(n), -2);
            doc.due("the tape stays", x.count(5), 20);
        }
        doc.due("sixteen not told", x.check(16), -1);
        doc.due("empty then", x.count(5), 0);
        doc.due("it has not so many", x.check(16), -2);
        x.feed(0, 0, 0, 0, 0);
        doc.due("none", x.check(0), -1);
        doc.due("empty then, too", x.count(5), 0);
        x.feed(0, 1, 0, 0, 0);
        doc.due("one not told", x.check(16), 7);
        x.person(7, 0, 1);
        x.feed(0, 1, 0, 0, 0);
        doc.due("told", x.check(16), -1);
        x.feed(0xFF000000, 0, 0, 0, 0);
        doc.due("255", x.check(1), 0);
    }

    private static void count() {
        doc.says("0 THE NIGHT, 1 told ones (bits), 2 laid ones (bits), 3 WISHES, 4 RULES, 5 bytes of the tape, 6 X, 7 MOOD of all;"
                + " 20 + 10 Y + X who lies on a PLOT (nobody: -2). NONE for others.");
        TalkingPlots x = new TalkingPlots();
        for (int p = 0; p < 16; p++) {
            x.person(p, 0, 99);
        }
        Checks.burials(x, "a@0,0;p@9,5");
        Checks.wishes(x, Checks.again("a#", ";", 24));
        Checks.law(x, Checks.again("q(1=1)", ";", 16));
        x.nights(240);
        x.seed(65535);
        Checks.feed(x, "abc");
        int[] counts = {240, 65535, 32769, 24, 16, 20, 65535, 1584};
        for (int what = 0; what < 8; what++) {
            doc.due("count(" + what + ")", x.count(what), counts[what]);
        }
        for (int plot = 0; plot < 60; plot++) {
            doc.due("count(" + (20 + plot) + ")", x.count(20 + plot), plot == 0 ? 0 : plot == 59 ? 15 : -2);
        }
        for (int what = 8; what < 20; what++) {
            doc.due("count(" + what + ")", x.count(what), -1);
        }
        for (int what : new int[] {80, 81, 100, 1 << 30}) {
            doc.due("count(" + what + ")", x.count(what), -1);
        }
        for (int what : FAR) {
            doc.due("count(" + what + ")", x.count(what), -1);
        }
    }

    private static void calls512() {
        doc.says("An object is used for at most 512 calls after it has been made");
        TalkingPlots x = new TalkingPlots();
        x.person(0, 1, 50);
        x.person(1, 1, 50);
        Checks.burials(x, "a@0,0;b@0,1");
        for (int i = 0; i < 126; i++) {
            doc.due("feed", x.feed(0x65312870, 0x3D30293B, 0x67312831, 0x3D312900, i), 20);
            doc.due("law", x.law(15), 2);
            doc.due("nights", x.nights(1), 1);
            doc.due("keep", x.keep(), i + 1);
        }
        doc.due("the 509th", x.count(7), 198);
        doc.due("the 510th", x.personIs(0, 2), 0);
        doc.due("the 511th", x.undo(), true);
        doc.due("the 512th", x.count(0), 126);
    }

    /** Each kind of yard that is changed in no way: THE LAW, WISHES, PEOPLE, X, THE NIGHT, the tape, what was KEPT. */
    private static void crowd(TalkingPlots x) {
        for (int p = 0; p < 6; p++) {
            x.person(p, 5 << p & 255, 20 + 10 * p);
        }
        Checks.burials(x, "a@0,0;b@1,0;c@1,1;d@2,1;e@1,2");
        Checks.law(x, "es+u(1=1);h6(1=1);b3(u>0);g2(n>1)");
        Checks.wishes(x, "a+b;a-d;c#");
        x.nights(2);
        x.keep();
        x.nights(1);
        Checks.feed(x, "g9(1=1);b1(1=1);g5((1=1)&(p<9|k=3))");
    }

    private static void notKept(TalkingPlots x) {
        x.person(0, 3, 50);
        x.person(1, 3, 50);
        x.person(2, 3, 50);
        Checks.burials(x, "a@0,0");
    }

    private static void full(TalkingPlots x) {
        crowd(x);
        for (int i = 0; i < 11; i++) {
            x.feed(0x613D613B, 0x613D613B, 0x613D613B, 0x613D613B, 0x613D613B);
        }
    }

    private static void refused() {
        doc.says("A call that is refused (NONE, false) changes nothing but the tape, where it is told.");
        Map<String, Consumer<TalkingPlots>> calls = new LinkedHashMap<>();
        refusedTexts(calls);
        refusedOfOnes(calls);
        refusedOfMany(calls);
        for (Map.Entry<String, Consumer<TalkingPlots>> call : calls.entrySet()) {
            doc.changesNothing(call.getKey(), EdgesOfCallsTest::crowd, call.getValue());
        }
        doc.changesNothing("undo() where none was KEPT", EdgesOfCallsTest::notKept, x -> doc.due("undo()", x.undo(), false));
        doc.changesNothing("feed of a full tape", EdgesOfCallsTest::full, x -> doc.due("feed", x.feed(1, 2, 3, 4, 5), -1));
    }

    private static void refusedTexts(Map<String, Consumer<TalkingPlots>> calls) {
        for (int n : new int[] {Integer.MIN_VALUE, -1, 0, 41, 121, 241, Integer.MAX_VALUE}) {
            calls.put("law(" + n + ")", x -> doc.due("law(" + n + ")", x.law(n), -1));
            calls.put("burials(" + n + ")", x -> doc.due("burials(" + n + ")", x.burials(n), -1));
            calls.put("wishes(" + n + ")", x -> doc.due("wishes(" + n + ")", x.wishes(n), -1));
            calls.put("thread(" + n + ", 100)", x -> doc.due("thread(" + n + ", 100)", x.thread(n, 100), -1));
        }
        for (int n : new int[] {Integer.MIN_VALUE, -1, 17, 41, Integer.MAX_VALUE}) {
            calls.put("check(" + n + ")", x -> doc.due("check(" + n + ")", x.check(n), -2));
        }
        for (int n : new int[] {Integer.MIN_VALUE, -1, 0, 241, Integer.MAX_VALUE}) {
            calls.put("nights(" + n + ")", x -> doc.due("nights(" + n + ")", x.nights(n), -1));
            calls.put("tried(" + n + ", 0)", x -> doc.due("tried(" + n + ", 0)", x.tried(n, 0), -1));
        }
        for (int what : new int[] {-1, 20, 99, 101}) {
            calls.put("thread(2, " + what + ")", x -> doc.due("thread(2, " + what + ")", x.thread(2, what), -1));
        }
        for (int what : new int[] {-1, 3, 9, 16, 25, 26, 29, 36, 45, 46}) {
            calls.put("tried(9, " + what + ")", x -> doc.due("tried(9, " + what + ")", x.tried(9, what), -1));
        }
        for (int seed : new int[] {Integer.MIN_VALUE, -1, 65536, Integer.MAX_VALUE}) {
            calls.put("seed(" + seed + ")", x -> doc.due("seed(" + seed + ")", x.seed(seed), false));
        }
    }

    private static void refusedOfOnes(Map<String, Consumer<TalkingPlots>> calls) {
        int[][] people = {{-1, 1, 1}, {16, 1, 1}, {0, -1, 1}, {0, 65536, 1}, {0, 1, -1}, {0, 1, 100}};
        for (int[] p : people) {
            calls.put("person " + p[0] + " " + p[1] + " " + p[2], x -> doc.due("person", x.person(p[0], p[1], p[2]), false));
        }
        for (int p : new int[] {Integer.MIN_VALUE, -1, 6, 15, 16, Integer.MAX_VALUE}) {
            calls.put("personIs(" + p + ", 0)", x -> doc.due("personIs(" + p + ", 0)", x.personIs(p, 0), -1));
            calls.put("circles(" + p + ")", x -> doc.due("circles(" + p + ")", x.circles(p), -1));
            calls.put("from(" + p + ", 0)", x -> doc.due("from(" + p + ", 0)", x.from(p, 0), -1));
            calls.put("visit(" + p + ")", x -> doc.due("visit(" + p + ")", x.visit(p), -1));
            calls.put("alike(" + p + ", 0)", x -> doc.due("alike(" + p + ", 0)", x.alike(p, 0), -1));
            calls.put("talk(" + p + ", 0)", x -> doc.due("talk(" + p + ", 0)", x.talk(p, 0), -1000));
            calls.put("best(" + p + ", 0)", x -> doc.due("best(" + p + ", 0)", x.best(p, 0), -1000));
        }
    }

    private static void refusedOfMany(Map<String, Consumer<TalkingPlots>> calls) {
        for (int what : new int[] {-1, 5, 8, 19, 80, 102}) {
            calls.put("move(" + what + ")", x -> doc.due("move(" + what + ")", x.move(what), -1));
            calls.put("change(" + what + ")", x -> doc.due("change(" + what + ")", x.change(what), -1));
            calls.put("hold(" + what + ")", x -> doc.due("hold(" + what + ")", x.hold(what), -1));
            calls.put("silent(" + what + ")", x -> doc.due("silent(" + what + ")", x.silent(what), -1));
            calls.put("heard(0, " + what + ")", x -> doc.due("heard(0, " + what + ")", x.heard(0, what), -1));
            calls.put("good(0, " + what + ")", x -> doc.due("good(0, " + what + ")", x.good(0, what), -1000));
        }
        for (int people : new int[] {-1, 0, 1, 65535, 65539}) {
            calls.put("row(" + people + ", 100)", x -> doc.due("row(" + people + ", 100)", x.row(people, 100), -1000));
            calls.put("couples(" + people + ", 100)", x -> doc.due("couples(" + people + ", 100)", x.couples(people, 100), -1000));
        }
        calls.put("row of one not told", x -> doc.due("row(129, 100)", x.row(129, 100), -2));
        calls.put("couples of one not told", x -> doc.due("couples(129, 100)", x.couples(129, 100), -3));
        for (int what : new int[] {-1, 8, 19, 80}) {
            calls.put("count(" + what + ")", x -> doc.due("count(" + what + ")", x.count(what), -1));
        }
    }

    private static void nothingAsked() {
        doc.says("Nothing is promised beyond the answers and state changes described above");
        Map<String, Consumer<TalkingPlots>> calls = new LinkedHashMap<>();
        for (int what = 0; what <= 4; what++) {
            int w = what;
            calls.put("personIs(1, " + w + ")", x -> x.personIs(1, w));
            calls.put("best(1, " + w + ")", x -> x.best(1, w));
            calls.put("move(" + w + ")", x -> x.move(w));
            calls.put("change(" + w + ")", x -> x.change(w));
            calls.put("hold(" + w + ")", x -> x.hold(w));
            calls.put("row(31, " + w + ")", x -> x.row(31, w));
            calls.put("couples(31, " + w + ")", x -> x.couples(31, w));
            calls.put("heard(0, " + w + ")", x -> x.heard(0, w));
            calls.put("circles(" + w + ")", x -> x.circles(w));
            calls.put("from(1, " + w + ")", x -> x.from(1, w));
            calls.put("good(1, " + w + ")", x -> x.good(1, w));
            calls.put("silent(" + w + ")", x -> x.silent(w));
            calls.put("visit(" + w + ")", x -> x.visit(w));
            calls.put("alike(1, " + w + ")", x -> x.alike(1, w));
            calls.put("talk(1, " + w + ")", x -> x.talk(1, w));
            calls.put("count(" + w + ")", x -> x.count(w));
        }
        calls.put("row(31, 101)", x -> x.row(31, 101));
        calls.put("yardTalk()", x -> x.yardTalk());
        calls.put("visited()", x -> x.visited());
        for (Map.Entry<String, Consumer<TalkingPlots>> call : calls.entrySet()) {
            doc.changesNothing(call.getKey(), EdgesOfCallsTest::crowd, call.getValue());
        }
    }

    /** Calls with all numbers far beyond come to an end and answer, whatever the yard is like. */
    private static void farNumbers() {
        doc.says("NONE for others.");
        for (int a : FAR) {
            for (int b : FAR) {
                TalkingPlots x = new TalkingPlots();
                crowd(x);
                doc.due("tried " + a + " " + b, x.tried(a, b), -1);
                doc.due("personIs " + a + " " + b, x.personIs(a, b), -1);
                doc.due("talk " + a + " " + b, x.talk(a, b), -1000);
                doc.due("best " + a + " " + b, x.best(a, b), -1000);
                doc.due("row " + a + " " + b, x.row(a, b), -1000);
                doc.due("couples " + a + " " + b, x.couples(a, b), -1000);
                doc.due("heard " + a + " " + b, x.heard(a, b), -1);
                doc.due("from " + a + " " + b, x.from(a, b), -1);
                doc.due("thread " + a + " " + b, x.thread(a, b), -1);
                doc.due("good " + a + " " + b, x.good(a, b), -1000);
                doc.due("alike " + a + " " + b, x.alike(a, b), -1);
                doc.due("person " + a + " " + b, x.person(a, b, a), false);
            }
        }
    }
}
