import java.util.Random;

/** Runs of drawn calls, always the same ones, on the class and on the plain yard: both must answer alike. */
public final class PlainYardTest {
    private static final int RUNS = 400;
    private static final int CALLS = 400;

    private final Checks checks = new Checks();
    private final Random random;
    private final TalkingPlots x = new TalkingPlots();
    private final PlainYard plain = new PlainYard();
    private final String name;

    private PlainYardTest(int run) {
        random = new Random(run);
        name = "run " + run + ": ";
    }

    public static void main(String[] args) {
        int runs = args.length > 0 ? Integer.parseInt(args[0]) : RUNS;
        int first = args.length > 1 ? Integer.parseInt(args[1]) : 0;
        for (int run = first; run < first + runs; run++) {
            PlainYardTest test = new PlainYardTest(run);
            if (run % 4 != 0) {
                test.crowd();
            }
            for (int i = 0; i < CALLS && test.checks.allRight(); i++) {
                test.call();
            }
            if (!test.checks.allRight()) {
                System.exit(1);
            }
        }
        System.out.println(runs + " runs of about " + CALLS + " calls answered alike");
    }

    private int below(int n) {
        return random.nextInt(n);
    }

    /** Mostly from least to most, now and then beyond it. */
    private int about(int least, int most) {
        int kind = below(40);
        if (kind == 0) {
            return least - 1 - below(3);
        }
        if (kind == 1) {
            return most + 1 + below(3);
        }
        if (kind == 2) {
            return below(8) == 0 ? random.nextInt() : least;
        }
        return least + below(most - least + 1);
    }

    private int what(int... known) {
        return below(40) == 0 ? about(-2, 120) : known[below(known.length)];
    }

    private void due(String call, int got, int want) {
        checks.due(name + call, got, want);
    }

    private void feed(int a, int b, int c, int d, int e) {
        due("feed(" + a + ", " + b + ", " + c + ", " + d + ", " + e + ")", x.feed(a, b, c, d, e), plain.feed(a, b, c, d, e));
    }

    private void feed(String text) {
        for (int i = 0; i < text.length(); i += 20) {
            feed(Checks.four(text, i), Checks.four(text, i + 4), Checks.four(text, i + 8),
                    Checks.four(text, i + 12), Checks.four(text, i + 16));
        }
    }

    /** Many who lie close together, so that there is something to talk about. */
    private void crowd() {
        int size = 6 + below(11);
        int known = below(3) == 0 ? 65535 : below(2) == 0 ? 255 : 7;
        for (int p = 0; p < size; p++) {
            tell(p, random.nextInt() & known, below(6) == 0 ? 0 : 1 + below(99));
        }
        int wide = 3 + below(4);
        for (int i = 0; i < 40; i++) {
            bury((char) ('a' + below(size)) + "@" + below(wide) + "," + below(Math.min(wide, 5)));
        }
        String text = "es+" + below(3) + "*u(1=1);h" + below(11) + "(1=1);g" + below(3) + "(o>m);b" + below(3) + "(n<2)";
        feed(text);
        due("law of " + text, x.law(text.length()), plain.law(text.length()));
    }

    private void bury(String text) {
        feed(text);
        due("burials of " + text, x.burials(text.length()), plain.burials(text.length()));
    }

    private void tell(int p, int topics, int mood) {
        due("person(" + p + ", " + topics + ", " + mood + ")", x.person(p, topics, mood) ? 1 : 0, plain.person(p, topics, mood) ? 1 : 0);
    }

    private void call() {
        int kind = below(60);
        if (kind < 6 && (below(6) == 0 || Integer.bitCount(plain.count(1)) < 6)) {
            people();
        } else if (kind < 18) {
            texts();
        } else if (kind < 24) {
            nights();
        } else if (kind < 26) {
            keeping();
        } else if (kind < 40) {
            ofOnes();
        } else if (kind < 50) {
            ofMany();
        } else {
            ofYard();
        }
    }

    private void people() {
        int p = about(0, 15);
        int topics = below(2) == 0 ? about(0, 65535) : about(0, 31);
        int mood = below(4) == 0 ? about(0, 3) : about(0, 99);
        tell(p, topics, mood);
    }

    private void texts() {
        int kind = below(8);
        String text;
        if (kind < 4) {
            text = spoilt(burials());
            feed(text);
            int n = below(30) == 0 ? about(1, 120) : text.length();
            due("burials(" + n + ") of " + text, x.burials(n), plain.burials(n));
        } else if (kind < 5) {
            text = spoilt(wishes());
            feed(text);
            int n = below(30) == 0 ? about(1, 120) : text.length();
            due("wishes(" + n + ") of " + text, x.wishes(n), plain.wishes(n));
        } else if (kind < 7) {
            text = spoilt(law());
            feed(text);
            int n = below(30) == 0 ? about(1, 240) : text.length();
            due("law(" + n + ") of " + text, x.law(n), plain.law(n));
        } else if (below(2) == 0) {
            sayings();
        } else {
            check();
        }
    }

    private void sayings() {
        StringBuilder text = new StringBuilder();
        int n = about(1, 20);
        for (int i = 0; i < 20; i++) {
            int said = 1 << below(16) | (below(3) == 0 ? 0 : 1 << below(16));
            said = below(12) == 0 ? 0 : said;
            text.append((char) (said >> 8)).append((char) (said & 255));
        }
        feed(text.toString());
        int what = below(3) == 0 ? 100 : about(0, 19);
        due("thread(" + n + ", " + what + ")", x.thread(n, what), plain.thread(n, what));
    }

    private void check() {
        StringBuilder text = new StringBuilder();
        for (int p = 0; p < 16; p++) {
            text.append((char) (below(20) == 0 ? below(256) : Math.max(0, plain.personIs(p, 1))));
        }
        feed(text.toString());
        int n = about(0, 16);
        due("check(" + n + ")", x.check(n), plain.check(n));
    }

    private String spoilt(String text) {
        if (below(3) != 0) {
            return text;
        }
        String signs = "abcpqegbhkABPQ@!=+-,;.#()[]<>|&*/%0123456789 ";
        int at = below(text.length());
        String sign = String.valueOf(below(20) == 0 ? (char) below(256) : signs.charAt(below(signs.length())));
        switch (below(4)) {
            case 0: return text.substring(0, at) + sign + text.substring(at);
            case 1: return text.substring(0, at) + sign + text.substring(at + 1);
            case 2: return at == 0 ? sign : text.substring(0, at);
            default: return text.substring(0, at) + text.substring(at + 1) + ";" ;
        }
    }

    private char one() {
        return (char) ('a' + below(16));
    }

    private char toldOne() {
        for (int i = 0; i < 20; i++) {
            int p = below(16);
            if (plain.personIs(p, 1) >= 0) {
                return (char) ('a' + p);
            }
        }
        return one();
    }

    private String burials() {
        StringBuilder text = new StringBuilder();
        int lines = below(12) == 0 ? 18 + below(4) : 1 + below(5);
        for (int i = 0; i < lines; i++) {
            text.append(i == 0 ? "" : ";").append(below(25) == 0 ? one() : toldOne());
            int kind = lines > 10 ? 5 + below(5) : below(10);
            if (kind < 6) {
                int wide = below(2) == 0 ? 4 : 10;
                text.append('@').append(below(wide)).append(',').append(below(20) == 0 ? 6 + below(4) : below(Math.min(wide, 6)));
            } else if (kind == 6) {
                text.append('!');
            } else if (kind == 7) {
                text.append('=').append(below(25) == 0 ? one() : toldOne());
            } else {
                text.append(kind == 8 ? '+' : '-').append((char) ('A' + below(16)));
            }
        }
        return text.length() > 120 ? text.substring(0, 120) : text.toString();
    }

    private String wishes() {
        StringBuilder text = new StringBuilder();
        int lines = below(8) == 0 ? 22 + below(4) : 1 + below(6);
        for (int i = 0; i < lines; i++) {
            char p = one();
            char q = below(40) == 0 ? p : (char) ('a' + (p - 'a' + 1 + below(15)) % 16);
            text.append(i == 0 ? "" : ";").append(p);
            int kind = below(7);
            text.append(kind < 3 ? "+" + q : kind < 5 ? "-" + q : kind == 5 ? "#" : below(3) == 0 ? "." : "#");
        }
        return text.length() > 120 ? text.substring(0, 120) : text.toString();
    }

    private String law() {
        StringBuilder text = new StringBuilder();
        int rules = below(15) == 0 ? 15 + below(3) : 2 + below(6);
        for (int i = 0; i < rules; i++) {
            StringBuilder rule = new StringBuilder();
            char letter = i == 0 && below(3) != 0 ? 'e' : "eehhggbbq".charAt(below(9));
            int deep = rules > 10 ? 0 : 3 + below(5);
            rule.append(letter);
            if (letter != 'q') {
                sum(rule, deep);
            }
            rule.append('(');
            condition(rule, deep);
            rule.append(')');
            if (text.length() + rule.length() + 1 <= 240) {
                text.append(text.length() == 0 ? "" : ";").append(rule);
            }
        }
        return text.length() == 0 ? "es(1=1)" : text.toString();
    }

    private void condition(StringBuilder to, int deep) {
        int tests = 1 + (deep > 0 && below(2) == 0 ? 1 + below(2) : 0);
        for (int i = 0; i < tests; i++) {
            to.append(i == 0 ? "" : below(2) == 0 ? "&" : "|");
            int kind = deep > 0 ? below(8) : 8;
            if (kind == 0) {
                to.append('!');
                if (below(2) == 0) {
                    to.append('(');
                    condition(to, deep - 2);
                    to.append(')');
                } else {
                    to.append(below(3) == 0 ? "!" : "");
                    sum(to, deep - 1);
                    to.append("<>=".charAt(below(3)));
                    sum(to, deep - 1);
                }
            } else if (kind == 1) {
                to.append('(');
                condition(to, deep - 1);
                to.append(')');
            } else {
                sum(to, deep - 1);
                to.append("<>=".charAt(below(3)));
                sum(to, 0);
            }
        }
    }

    private void sum(StringBuilder to, int deep) {
        int factors = 1 + (deep > 0 ? below(3) : 0);
        for (int i = 0; i < factors; i++) {
            to.append(i == 0 ? "" : String.valueOf("+-*/%".charAt(below(5))));
            int kind = below(10);
            if (kind == 0 && deep > 0) {
                to.append('[');
                sum(to, deep - 1);
                to.append(']');
            } else if (kind < 4) {
                to.append(below(10) == 0 ? below(100000) : below(4) == 0 ? below(100) : below(10));
            } else {
                to.append("pksumont".charAt(below(8)));
            }
        }
    }

    private void nights() {
        int n = below(10) == 0 ? about(1, 240) : 1 + below(12);
        if (below(3) == 0) {
            due("nights(" + n + ")", x.nights(n), plain.nights(n));
            moods();
        } else {
            int one = below(8) == 0 ? about(0, 15) : toldOne() - 'a';
            int what = below(2) == 0 ? below(3) : one + (below(2) == 0 ? 10 : 30);
            due("tried(" + n + ", " + what + ")", x.tried(n, what), plain.tried(n, what));
        }
    }

    private void moods() {
        int p = below(16);
        due("personIs(" + p + ", 1)", x.personIs(p, 1), plain.personIs(p, 1));
        due("personIs(" + p + ", 0)", x.personIs(p, 0), plain.personIs(p, 0));
        due("count(6)", x.count(6), plain.count(6));
        due("count(7)", x.count(7), plain.count(7));
    }

    private void keeping() {
        int kind = below(6);
        if (kind < 3) {
            due("keep()", x.keep(), plain.keep());
        } else if (kind < 4) {
            due("undo()", x.undo() ? 1 : 0, plain.undo() ? 1 : 0);
            moods();
        } else {
            int seed = about(0, 65535);
            due("seed(" + seed + ")", x.seed(seed) ? 1 : 0, plain.seed(seed) ? 1 : 0);
        }
    }

    private void ofOnes() {
        int p = below(4) == 0 ? about(0, 15) : toldOne() - 'a';
        int q = below(4) == 0 ? about(0, 15) : toldOne() - 'a';
        int what = what(0, 1);
        switch (below(9)) {
            case 0:
                int of = what(0, 1, 2, 3, 4);
                due("personIs(" + p + ", " + of + ")", x.personIs(p, of), plain.personIs(p, of));
                break;
            case 1: due("talk(" + p + ", " + q + ")", x.talk(p, q), plain.talk(p, q)); break;
            case 2: due("best(" + p + ", " + what + ")", x.best(p, what), plain.best(p, what)); break;
            case 3: due("heard(" + p + ", " + what + ")", x.heard(p, what), plain.heard(p, what)); break;
            case 4: due("from(" + p + ", " + q + ")", x.from(p, q), plain.from(p, q)); break;
            case 5: due("visit(" + p + ")", x.visit(p), plain.visit(p)); break;
            case 6: due("alike(" + p + ", " + what + ")", x.alike(p, what), plain.alike(p, what)); break;
            default:
                int circle = below(3) == 0 ? 100 : p;
                due("circles(" + circle + ")", x.circles(circle), plain.circles(circle));
        }
    }

    /** Some PEOPLE, mostly told ones. */
    private int some(int most) {
        int set = 0;
        int size = about(2, most);
        for (int i = 0; i < 60 && Integer.bitCount(set) < size && Integer.bitCount(set) < 13; i++) {
            set |= 1 << (below(60) == 0 ? one() : toldOne()) - 'a';
        }
        return below(60) == 0 ? about(0, 65535) : below(100) == 0 ? set | 65536 : set;
    }

    private void ofMany() {
        if (below(2) == 0) {
            int people = some(below(5) == 0 ? 7 : 5);
            int what = what(100, 101, 101, 0, 1, 2, 3, 4, 5, 6);
            due("row(" + people + ", " + what + ")", x.row(people, what), plain.row(people, what));
        } else {
            int people = some(below(5) == 0 ? 10 : 7);
            int p = below(16);
            int what = what(100, p, toldOne() - 'a', people > 0 ? 31 - Integer.numberOfLeadingZeros(people) : 0);
            due("couples(" + people + ", " + what + ")", x.couples(people, what), plain.couples(people, what));
        }
    }

    private void ofYard() {
        int what = what(0, 1, 2);
        switch (below(8)) {
            case 0: due("yardTalk()", x.yardTalk(), plain.yardTalk()); break;
            case 1: due("move(" + what + ")", x.move(what), plain.move(what)); break;
            case 2: due("change(" + what + ")", x.change(what), plain.change(what)); break;
            case 3: due("hold(" + what + ")", x.hold(what), plain.hold(what)); break;
            case 4:
                int y = about(0, 5);
                due("good(" + y + ", " + what + ")", x.good(y, what), plain.good(y, what));
                break;
            case 5: due("silent(" + what + ")", x.silent(what), plain.silent(what)); break;
            case 6: due("visited()", x.visited(), plain.visited()); break;
            default:
                int of = below(2) == 0 ? about(0, 7) : about(20, 79);
                due("count(" + of + ")", x.count(of), plain.count(of));
        }
    }
}
