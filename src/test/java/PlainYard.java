import java.util.ArrayDeque;
import java.util.ArrayList;
import java.util.Collections;
import java.util.List;
import java.util.function.ToIntFunction;

/** The document once more, by trying everything out: slow, and written apart from the class. */
final class PlainYard {
    static final class Fault extends RuntimeException {
        private static final long serialVersionUID = 1L;
        final int answer;

        Fault(int number, int place) {
            super(null, null, false, false);
            answer = -1000 * number - place;
        }
    }

    static final class Refused extends RuntimeException {
        private static final long serialVersionUID = 1L;

        Refused() {
            super(null, null, false, false);
        }
    }

    static final class One {
        int topics;
        int mood;
        int x = -1;
        int y = -1;

        One(int topics, int mood) {
            this.topics = topics;
            this.mood = mood;
        }

        One copy() {
            One c = new One(topics, mood);
            c.x = x;
            c.y = y;
            return c;
        }

        boolean laid() {
            return x >= 0;
        }
    }

    static final class State {
        One[] people = new One[16];
        int night = 0;
        int x = 1;

        State copy() {
            State c = new State();
            for (int i = 0; i < 16; i++) {
                c.people[i] = people[i] == null ? null : people[i].copy();
            }
            c.night = night;
            c.x = x;
            return c;
        }

        boolean told(int p) {
            return p >= 0 && p <= 15 && people[p] != null;
        }

        int who(int x, int y) {
            for (int p = 0; p < 16; p++) {
                if (people[p] != null && people[p].x == x && people[p].y == y) {
                    return p;
                }
            }
            return -2;
        }

        boolean beside(int p, int q) {
            if (!told(p) || !told(q) || !people[p].laid() || !people[q].laid()) {
                return false;
            }
            return Math.abs(people[p].x - people[q].x) + Math.abs(people[p].y - people[q].y) == 1;
        }

        int besideBits(int p) {
            int bits = 0;
            for (int q = 0; q < 16; q++) {
                if (beside(p, q)) {
                    bits |= 1 << q;
                }
            }
            return bits;
        }

        int talk(int p, int q) {
            int sum = 0;
            for (int t = 0; t < 16; t++) {
                boolean a = (people[p].topics >> t & 1) == 1;
                boolean b = (people[q].topics >> t & 1) == 1;
                sum += a && b ? 3 : a != b ? -1 : 0;
            }
            return sum;
        }

        int talkOf(int p) {
            int sum = 0;
            for (int q = 0; q < 16; q++) {
                if (beside(p, q)) {
                    sum += talk(p, q);
                }
            }
            return sum;
        }

        int yardTalk() {
            int sum = 0;
            for (int p = 0; p < 16; p++) {
                for (int q = p + 1; q < 16; q++) {
                    if (beside(p, q)) {
                        sum += talk(p, q);
                    }
                }
            }
            return sum;
        }

        void swap(int p, int q) {
            int x = people[p].x;
            int y = people[p].y;
            people[p].x = people[q].x;
            people[p].y = people[q].y;
            people[q].x = x;
            people[q].y = y;
        }
    }

    /** What one asks THE LAW about. */
    static final class Asked {
        int p;
        int k;
        int s;
        int u;
        int m;
        int o;
        int n;
        int t;
    }

    interface Sum {
        int of(Asked a);
    }

    interface Cond {
        boolean of(Asked a);
    }

    static final class Rule {
        char letter;
        Sum sum;
        Cond cond;
    }

    static final class Wish {
        int one;
        char sign;
        int other = -1;
    }

    /** Reads texts; every FAULT is thrown. */
    static final class Reader {
        final int[] text;
        int at = 0;

        Reader(int[] text) {
            this.text = text;
        }

        int look() {
            return at < text.length ? text[at] : -1;
        }

        Fault bad() {
            return new Fault(1, at);
        }

        int oneOf(String signs) {
            int i = look() < 0 ? -1 : signs.indexOf((char) look());
            if (i < 0) {
                throw bad();
            }
            at++;
            return signs.charAt(i);
        }

        List<Rule> law() {
            List<Rule> rules = new ArrayList<>();
            while (true) {
                int letter = oneOf("ehgbq");
                if (rules.size() == 16) {
                    throw new Fault(4, at - 1);
                }
                Rule r = new Rule();
                r.letter = (char) letter;
                r.sum = letter == 'q' ? a -> 0 : sum(0);
                oneOf("(");
                r.cond = cond(1);
                oneOf(")");
                rules.add(r);
                if (at == text.length) {
                    return rules;
                }
                oneOf(";");
            }
        }

        void open(int depth) {
            if (depth == 6) {
                throw new Fault(5, at);
            }
            at++;
        }

        Cond cond(int depth) {
            Cond left = part(depth);
            while (look() == '|') {
                at++;
                Cond before = left;
                Cond right = part(depth);
                left = a -> before.of(a) || right.of(a);
            }
            return left;
        }

        Cond part(int depth) {
            Cond left = test(depth);
            while (look() == '&') {
                at++;
                Cond before = left;
                Cond right = test(depth);
                left = a -> before.of(a) && right.of(a);
            }
            return left;
        }

        Cond test(int depth) {
            if (look() == '!') {
                open(depth);
                Cond inner = test(depth + 1);
                return a -> !inner.of(a);
            }
            if (look() == '(') {
                open(depth);
                Cond inner = cond(depth + 1);
                oneOf(")");
                return inner;
            }
            Sum left = sum(depth);
            int sign = oneOf("<>=");
            Sum right = sum(depth);
            return a -> {
                int x = left.of(a);
                int y = right.of(a);
                return sign == '<' ? x < y : sign == '>' ? x > y : x == y;
            };
        }

        Sum sum(int depth) {
            Sum left = term(depth);
            while (look() == '+' || look() == '-') {
                boolean plus = look() == '+';
                at++;
                Sum before = left;
                Sum right = term(depth);
                left = plus ? a -> before.of(a) + right.of(a) : a -> before.of(a) - right.of(a);
            }
            return left;
        }

        Sum term(int depth) {
            Sum left = factor(depth);
            while (look() == '*' || look() == '/' || look() == '%') {
                int sign = look();
                at++;
                Sum before = left;
                Sum right = factor(depth);
                left = a -> {
                    int x = before.of(a);
                    int y = right.of(a);
                    if (sign == '*') {
                        return x * y;
                    }
                    if (y == 0) {
                        throw new Refused();
                    }
                    return sign == '/' ? x / y : x % y;
                };
            }
            return left;
        }

        Sum factor(int depth) {
            if (look() == '[') {
                open(depth);
                Sum inner = sum(depth + 1);
                oneOf("]");
                return inner;
            }
            if (look() >= '0' && look() <= '9') {
                int value = 0;
                int digits = 0;
                while (look() >= '0' && look() <= '9') {
                    digits++;
                    if (digits == 6) {
                        throw new Fault(2, at);
                    }
                    value = value * 10 + look() - '0';
                    at++;
                }
                int number = value;
                return a -> number;
            }
            ToIntFunction<Asked> f;
            switch (oneOf("pksumont")) {
                case 'p': f = a -> a.p; break;
                case 'k': f = a -> a.k; break;
                case 's': f = a -> a.s; break;
                case 'u': f = a -> a.u; break;
                case 'm': f = a -> a.m; break;
                case 'o': f = a -> a.o; break;
                case 'n': f = a -> a.n; break;
                default: f = a -> a.t; break;
            }
            return f::applyAsInt;
        }

        int burials(State s) {
            int lines = 0;
            while (true) {
                int p = oneOf("abcdefghijklmnop") - 'a';
                if (lines == 20) {
                    throw new Fault(4, at - 1);
                }
                if (!s.told(p)) {
                    throw new Fault(7, at - 1);
                }
                One one = s.people[p];
                int what = oneOf("@!=+-");
                if (what == '@') {
                    int x = oneOf("0123456789") - '0';
                    oneOf(",");
                    int y = oneOf("0123456789") - '0';
                    if (y > 5) {
                        throw new Fault(3, at - 1);
                    }
                    int there = s.who(x, y);
                    if (there >= 0 && there != p) {
                        throw new Fault(8, at - 3);
                    }
                    one.x = x;
                    one.y = y;
                } else if (what == '!') {
                    one.x = -1;
                    one.y = -1;
                } else if (what == '=') {
                    int q = oneOf("abcdefghijklmnop") - 'a';
                    if (!s.told(q)) {
                        throw new Fault(7, at - 1);
                    }
                    s.swap(p, q);
                } else {
                    int topic = oneOf("ABCDEFGHIJKLMNOP") - 'A';
                    one.topics = what == '+' ? one.topics | 1 << topic : one.topics & ~(1 << topic);
                }
                lines++;
                if (at == text.length) {
                    return lines;
                }
                oneOf(";");
            }
        }

        List<Wish> wishes() {
            List<Wish> list = new ArrayList<>();
            while (true) {
                Wish w = new Wish();
                w.one = oneOf("abcdefghijklmnop") - 'a';
                if (list.size() == 24) {
                    throw new Fault(4, at - 1);
                }
                w.sign = (char) oneOf("+-#.");
                if (w.sign == '+' || w.sign == '-') {
                    w.other = oneOf("abcdefghijklmnop") - 'a';
                    if (w.other == w.one) {
                        throw new Fault(6, at - 1);
                    }
                }
                list.add(w);
                if (at == text.length) {
                    return list;
                }
                oneOf(";");
            }
        }
    }

    private State state = new State();
    private State kept = null;
    private List<Rule> law = new ArrayList<>();
    private List<Wish> wishes = new ArrayList<>();
    private List<Integer> tape = new ArrayList<>();
    private int talks;
    private int learnt;

    boolean person(int p, int topics, int mood) {
        if (p < 0 || p > 15 || topics < 0 || topics > 65535 || mood < 0 || mood > 99) {
            return false;
        }
        state.people[p] = new One(topics, mood);
        return true;
    }

    int feed(int... five) {
        if (tape.size() + 20 > 260) {
            return -1;
        }
        for (int i : five) {
            tape.add(i >>> 24);
            tape.add(i >>> 16 & 255);
            tape.add(i >>> 8 & 255);
            tape.add(i & 255);
        }
        return tape.size();
    }

    private int[] take(int n, int least, int most) {
        if (n < least || n > most || n > tape.size()) {
            return null;
        }
        int[] bytes = new int[n];
        for (int i = 0; i < n; i++) {
            bytes[i] = tape.get(i);
        }
        tape.clear();
        return bytes;
    }

    int law(int n) {
        int[] text = take(n, 1, 240);
        if (text == null) {
            return -1;
        }
        try {
            law = new Reader(text).law();
            return law.size();
        } catch (Fault f) {
            return f.answer;
        }
    }

    int burials(int n) {
        int[] text = take(n, 1, 120);
        if (text == null) {
            return -1;
        }
        State then = state.copy();
        try {
            int lines = new Reader(text).burials(then);
            state = then;
            return lines;
        } catch (Fault f) {
            return f.answer;
        }
    }

    int wishes(int n) {
        int[] text = take(n, 1, 120);
        if (text == null) {
            return -1;
        }
        try {
            wishes = new Reader(text).wishes();
            return wishes.size();
        } catch (Fault f) {
            return f.answer;
        }
    }

    private int ask(char letter, Asked a, int most) {
        for (Rule r : law) {
            if (r.letter == letter && holds(r, a)) {
                try {
                    return Math.max(0, Math.min(most, r.sum.of(a)));
                } catch (Refused e) {
                    return 0;
                }
            }
        }
        return 0;
    }

    private static boolean holds(Rule r, Asked a) {
        try {
            return r.cond.of(a);
        } catch (Refused e) {
            return false;
        }
    }

    private static Asked asked(State s, int p, int k) {
        Asked a = new Asked();
        a.p = p;
        a.m = s.people[p].mood;
        a.n = Integer.bitCount(s.besideBits(p));
        a.t = s.night % 100;
        if (k >= 0) {
            a.k = k;
            a.s = Integer.bitCount(s.people[p].topics & s.people[k].topics);
            a.u = Integer.bitCount(s.people[k].topics) - a.s;
            a.o = s.people[k].mood;
        }
        return a;
    }

    private void pass(State s, int n) {
        talks = 0;
        learnt = 0;
        for (int i = 0; i < n && s.night < 9999; i++) {
            for (int p = 0; p < 16; p++) {
                if (s.told(p) && s.people[p].laid() && s.people[p].mood > 0) {
                    turn(s, p);
                }
            }
            s.night++;
        }
    }

    private void turn(State s, int p) {
        for (Rule r : law) {
            if (r.letter == 'q' && holds(r, asked(s, p, -1))) {
                return;
            }
        }
        int with = -1;
        int most = 0;
        for (int k = 0; k < 16; k++) {
            if (s.beside(p, k) && s.people[k].mood > 0) {
                int e = ask('e', asked(s, p, k), 9999);
                if (e > most) {
                    most = e;
                    with = k;
                }
            }
        }
        Asked a = asked(s, p, with);
        int h = ask('h', a, 10);
        int g = ask('g', a, 99);
        int b = ask('b', a, 99);
        One one = s.people[p];
        if (with >= 0) {
            talks++;
            s.x = (int) ((25173L * s.x + 13849L) % 65536L);
            if (s.x % 10 < h) {
                for (int t = 0; t < 16; t++) {
                    if ((s.people[with].topics >> t & 1) == 1 && (one.topics >> t & 1) == 0) {
                        one.topics |= 1 << t;
                        learnt++;
                        break;
                    }
                }
            }
        }
        one.mood = Math.max(0, Math.min(99, one.mood + g - b));
    }

    int nights(int n) {
        if (n < 1 || n > 240) {
            return -1;
        }
        pass(state, n);
        return talks;
    }

    int tried(int n, int what) {
        if (n < 1 || n > 240) {
            return -1;
        }
        boolean mood = what >= 10 && what <= 25 && state.told(what - 10);
        boolean topics = what >= 30 && what <= 45 && state.told(what - 30);
        if (what != 0 && what != 1 && what != 2 && !mood && !topics) {
            return -1;
        }
        State s = state.copy();
        pass(s, n);
        if (what == 0) {
            return talks;
        }
        if (what == 1) {
            return learnt;
        }
        if (mood) {
            return s.people[what - 10].mood;
        }
        if (topics) {
            return Integer.bitCount(s.people[what - 30].topics);
        }
        int silent = 0;
        for (One o : s.people) {
            if (o != null && o.laid() && o.mood == 0) {
                silent++;
            }
        }
        return silent;
    }

    int personIs(int p, int what) {
        if (!state.told(p)) {
            return -1;
        }
        One one = state.people[p];
        if (what == 0) {
            return one.topics;
        }
        if (what == 1) {
            return one.mood;
        }
        if (what == 2) {
            return one.laid() ? 10 * one.y + one.x : -2;
        }
        if (what == 3) {
            return state.besideBits(p);
        }
        if (what == 4) {
            List<int[]> ranks = new ArrayList<>();
            for (int q = 0; q < 16; q++) {
                if (state.told(q)) {
                    ranks.add(new int[] {-state.people[q].mood, q});
                }
            }
            ranks.sort((a, b) -> a[0] != b[0] ? a[0] - b[0] : a[1] - b[1]);
            for (int i = 0; i < ranks.size(); i++) {
                if (ranks.get(i)[1] == p) {
                    return i;
                }
            }
        }
        return -1;
    }

    int talk(int p, int q) {
        return state.told(p) && state.told(q) && p != q ? state.talk(p, q) : -1000;
    }

    int yardTalk() {
        return state.yardTalk();
    }

    int best(int p, int what) {
        if (!state.told(p) || what != 0 && what != 1) {
            return -1000;
        }
        State s = state.copy();
        s.people[p].x = -1;
        s.people[p].y = -1;
        int plot = -1;
        int most = 0;
        for (int y = 0; y < 6; y++) {
            for (int x = 0; x < 10; x++) {
                s.people[p].x = -1;
                if (s.who(x, y) < 0) {
                    s.people[p].x = x;
                    s.people[p].y = y;
                    int much = s.talkOf(p);
                    if (plot < 0 || much > most) {
                        plot = 10 * y + x;
                        most = much;
                    }
                }
            }
        }
        return what == 0 ? plot : most;
    }

    int move(int what) {
        if (what < 0 || what > 2) {
            return -1;
        }
        int[] found = {-2, -2, -2};
        int now = state.yardTalk();
        for (int p = 0; p < 16; p++) {
            for (int i = 0; i < 60; i++) {
                if (state.told(p) && state.people[p].laid() && state.who(i % 10, i / 10) < 0) {
                    State s = state.copy();
                    s.people[p].x = i % 10;
                    s.people[p].y = i / 10;
                    int more = s.yardTalk() - now;
                    if (more > 0 && more > found[2]) {
                        found = new int[] {p, i, more};
                    }
                }
            }
        }
        return found[what];
    }

    int change(int what) {
        if (what < 0 || what > 2) {
            return -1;
        }
        int[] found = {-2, -2, -2};
        int now = state.yardTalk();
        for (int p = 0; p < 16; p++) {
            for (int q = p + 1; q < 16; q++) {
                if (state.told(p) && state.told(q) && state.people[p].laid() && state.people[q].laid()) {
                    State s = state.copy();
                    s.swap(p, q);
                    int more = s.yardTalk() - now;
                    if (more > 0 && more > found[2]) {
                        found = new int[] {p, q, more};
                    }
                }
            }
        }
        return found[what];
    }

    private boolean holds(Wish w) {
        boolean laid = state.told(w.one) && state.people[w.one].laid();
        if (w.sign == '+') {
            return state.beside(w.one, w.other);
        }
        if (w.sign == '-') {
            return !state.beside(w.one, w.other);
        }
        if (!laid) {
            return false;
        }
        One o = state.people[w.one];
        if (w.sign == '#') {
            return o.x == 0 || o.x == 9 || o.y == 0 || o.y == 5;
        }
        return state.besideBits(w.one) == 0;
    }

    int hold(int what) {
        if (what == 0) {
            return (int) wishes.stream().filter(this::holds).count();
        }
        if (what == 1) {
            for (int i = 0; i < wishes.size(); i++) {
                if (!holds(wishes.get(i))) {
                    return i;
                }
            }
            return -2;
        }
        return -1;
    }

    private static List<Integer> bits(int set) {
        List<Integer> list = new ArrayList<>();
        for (int i = 0; i < 32; i++) {
            if ((set >>> i & 1) == 1) {
                list.add(i);
            }
        }
        return list;
    }

    /** All rows, the least first. */
    private static void rows(List<Integer> left, List<Integer> row, List<List<Integer>> all) {
        if (left.isEmpty()) {
            all.add(new ArrayList<>(row));
            return;
        }
        for (int i = 0; i < left.size(); i++) {
            List<Integer> rest = new ArrayList<>(left);
            row.add(rest.remove(i));
            rows(rest, row, all);
            row.remove(row.size() - 1);
        }
    }

    private boolean pleases(List<Integer> row) {
        for (Wish w : wishes) {
            int i = row.indexOf(w.one);
            int j = row.indexOf(w.other);
            if (i < 0 || w.other >= 0 && j < 0) {
                continue;
            }
            boolean fine;
            switch (w.sign) {
                case '+': fine = Math.abs(i - j) == 1; break;
                case '-': fine = Math.abs(i - j) != 1; break;
                case '#': fine = i == 0 || i == row.size() - 1; break;
                default: fine = false;
            }
            if (!fine) {
                return false;
            }
        }
        return true;
    }

    int row(int people, int what) {
        List<Integer> members = bits(people);
        boolean known = what == 100 || what == 101 || what >= 0 && what <= 6;
        if (people < 0 || people > 65535 || members.size() < 2 || members.size() > 7 || !known) {
            return -1000;
        }
        for (int p : members) {
            if (!state.told(p)) {
                return -2;
            }
        }
        if (what < 10 && what >= members.size()) {
            return -4;
        }
        List<List<Integer>> all = new ArrayList<>();
        rows(members, new ArrayList<>(), all);
        int pleasing = 0;
        int most = -100000;
        List<Integer> best = null;
        for (List<Integer> row : all) {
            int sum = 0;
            for (int i = 1; i < row.size(); i++) {
                sum += state.talk(row.get(i - 1), row.get(i));
            }
            if (sum > most) {
                most = sum;
                best = row;
            }
            pleasing += pleases(row) ? 1 : 0;
        }
        return what == 100 ? most : what == 101 ? pleasing : best.get(what);
    }

    /** All ways to couple in the order of their goodness among like ones, the most of them kept. */
    private void couple(List<Integer> left, int sum, int[] with, int[] most, int[] best) {
        if (left.isEmpty()) {
            if (sum > most[0]) {
                most[0] = sum;
                System.arraycopy(with, 0, best, 0, 16);
            }
            return;
        }
        List<Integer> rest = new ArrayList<>(left);
        int one = rest.remove(0);
        for (int i = 0; i < rest.size(); i++) {
            int other = rest.get(i);
            if (state.talk(one, other) > 0) {
                List<Integer> fewer = new ArrayList<>(rest);
                fewer.remove(i);
                with[one] = other;
                with[other] = one;
                couple(fewer, sum + state.talk(one, other), with, most, best);
                with[one] = -2;
                with[other] = -2;
            }
        }
        couple(rest, sum, with, most, best);
    }

    int couples(int people, int what) {
        List<Integer> members = bits(people);
        boolean known = what == 100 || what >= 0 && what <= 15;
        if (people < 0 || people > 65535 || members.size() < 2 || members.size() > 10 || !known) {
            return -1000;
        }
        for (int p : members) {
            if (!state.told(p)) {
                return -3;
            }
        }
        if (what != 100 && !members.contains(what)) {
            return -3;
        }
        int[] with = new int[16];
        int[] best = new int[16];
        java.util.Arrays.fill(with, -2);
        int[] most = {-1};
        couple(members, 0, with, most, best);
        return what == 100 ? most[0] : best[what];
    }

    int heard(int topic, int what) {
        if (topic < 0 || topic > 15 || what < 0 || what > 1) {
            return -1;
        }
        int[] at = new int[16];
        ArrayDeque<Integer> queue = new ArrayDeque<>();
        java.util.Arrays.fill(at, -1);
        for (int p = 0; p < 16; p++) {
            if (state.told(p) && (state.people[p].topics >> topic & 1) == 1) {
                at[p] = 0;
                queue.add(p);
            }
        }
        walk(queue, at);
        int nights = 0;
        int who = 0;
        for (int p = 0; p < 16; p++) {
            nights = Math.max(nights, at[p]);
            who |= at[p] >= 0 ? 1 << p : 0;
        }
        return what == 0 ? nights : who;
    }

    private void walk(ArrayDeque<Integer> queue, int[] at) {
        while (!queue.isEmpty()) {
            int p = queue.remove();
            for (int q = 0; q < 16; q++) {
                if (at[q] < 0 && state.beside(p, q)) {
                    at[q] = at[p] + 1;
                    queue.add(q);
                }
            }
        }
    }

    private int[] stepsFrom(int p) {
        int[] at = new int[16];
        java.util.Arrays.fill(at, -1);
        at[p] = 0;
        ArrayDeque<Integer> queue = new ArrayDeque<>();
        queue.add(p);
        walk(queue, at);
        return at;
    }

    private int circle(int p) {
        int bits = 0;
        int[] at = stepsFrom(p);
        for (int q = 0; q < 16; q++) {
            bits |= at[q] >= 0 ? 1 << q : 0;
        }
        return bits;
    }

    int circles(int what) {
        if (what == 100) {
            List<Integer> seen = new ArrayList<>();
            for (int p = 0; p < 16; p++) {
                if (state.told(p) && state.people[p].laid() && !seen.contains(circle(p))) {
                    seen.add(circle(p));
                }
            }
            return seen.size();
        }
        if (!state.told(what)) {
            return -1;
        }
        return state.people[what].laid() ? circle(what) : 0;
    }

    int from(int p, int to) {
        if (!state.told(p) || !state.told(to)) {
            return -1;
        }
        if (!state.people[p].laid() || !state.people[to].laid()) {
            return -2;
        }
        int steps = stepsFrom(p)[to];
        return steps < 0 ? -2 : steps;
    }

    /** Of two THREADS the longer, of like ones the one that is less. */
    private static List<Integer> better(List<Integer> a, List<Integer> b) {
        if (a.size() != b.size()) {
            return a.size() > b.size() ? a : b;
        }
        for (int i = 0; i < a.size(); i++) {
            if (!a.get(i).equals(b.get(i))) {
                return a.get(i) < b.get(i) ? a : b;
            }
        }
        return a;
    }

    int thread(int n, int what) {
        if (n < 1 || n > 20 || what != 100 && (what < 0 || what > 19)) {
            return -1;
        }
        int[] bytes = take(2 * n, 2, 40);
        if (bytes == null) {
            return -1;
        }
        int[] said = new int[n];
        for (int i = 0; i < n; i++) {
            said[i] = bytes[2 * i] * 256 + bytes[2 * i + 1];
        }
        List<Integer> best = new ArrayList<>();
        List<List<Integer>> endingAt = new ArrayList<>();
        for (int i = 0; i < n; i++) {
            List<Integer> here = new ArrayList<>(Collections.singletonList(i));
            for (int j = 0; j < i; j++) {
                if ((said[i] & said[j]) != 0) {
                    List<Integer> longer = new ArrayList<>(endingAt.get(j));
                    longer.add(i);
                    here = better(here, longer);
                }
            }
            endingAt.add(here);
            best = better(best, here);
        }
        return what == 100 ? best.size() : what < best.size() ? best.get(what) : -4;
    }

    int good(int y, int what) {
        if (y < 0 || y > 5 || what < 0 || what > 2) {
            return -1000;
        }
        int[] found = null;
        for (int length = 1; length <= 10; length++) {
            for (int from = 0; from + length <= 10; from++) {
                int sum = 0;
                for (int x = from; x < from + length; x++) {
                    sum += state.who(x, y) < 0 ? 0 : state.talkOf(state.who(x, y));
                }
                int[] stretch = {from, from + length - 1, sum};
                if (found == null || sum > found[2] || sum == found[2] && from < found[0]) {
                    found = stretch;
                }
            }
        }
        return found[what];
    }

    private int[] block(int start) {
        int[] at = new int[60];
        java.util.Arrays.fill(at, -1);
        if (state.who(start % 10, start / 10) >= 0) {
            return at;
        }
        ArrayDeque<Integer> queue = new ArrayDeque<>();
        at[start] = 0;
        queue.add(start);
        while (!queue.isEmpty()) {
            int i = queue.remove();
            for (int j = 0; j < 60; j++) {
                boolean next = Math.abs(i % 10 - j % 10) + Math.abs(i / 10 - j / 10) == 1;
                if (next && at[j] < 0 && state.who(j % 10, j / 10) < 0) {
                    at[j] = at[i] + 1;
                    queue.add(j);
                }
            }
        }
        return at;
    }

    int silent(int what) {
        if (what < 0 || what > 2) {
            return -1;
        }
        int many = 0;
        int lowest = -2;
        int largest = 0;
        for (int i = 0; i < 60; i++) {
            boolean still = state.who(i % 10, i / 10) < 0;
            for (One o : state.people) {
                if (o != null && o.laid() && Math.abs(o.x - i % 10) + Math.abs(o.y - i / 10) == 1) {
                    still = false;
                }
            }
            if (still) {
                many++;
                lowest = lowest == -2 ? i : lowest;
            }
            if (what == 2) {
                int size = 0;
                for (int steps : block(i)) {
                    size += steps >= 0 ? 1 : 0;
                }
                largest = Math.max(largest, size);
            }
        }
        return what == 0 ? many : what == 1 ? lowest : largest;
    }

    int visit(int p) {
        if (!state.told(p)) {
            return -1;
        }
        One o = state.people[p];
        if (!o.laid()) {
            return -2;
        }
        int[] at = block(0);
        int least = -2;
        for (int i = 0; i < 60; i++) {
            boolean next = Math.abs(o.x - i % 10) + Math.abs(o.y - i / 10) == 1;
            if (next && at[i] >= 0 && (least == -2 || at[i] < least)) {
                least = at[i];
            }
        }
        return least;
    }

    int visited() {
        int bits = 0;
        for (int p = 0; p < 16; p++) {
            bits |= visit(p) >= 0 ? 1 << p : 0;
        }
        return bits;
    }

    int alike(int p, int what) {
        if (!state.told(p) || what < 0 || what > 1) {
            return -1;
        }
        for (int unlike = 0; unlike <= 16; unlike++) {
            for (int q = 0; q < 16; q++) {
                if (q != p && state.told(q)
                        && Integer.bitCount(state.people[p].topics ^ state.people[q].topics) == unlike) {
                    return what == 0 ? q : unlike;
                }
            }
        }
        return -2;
    }

    boolean seed(int x) {
        if (x < 0 || x > 65535) {
            return false;
        }
        state.x = x;
        return true;
    }

    int keep() {
        kept = state.copy();
        return state.night;
    }

    boolean undo() {
        if (kept == null) {
            return false;
        }
        state = kept.copy();
        return true;
    }

    int check(int n) {
        int[] bytes = take(n, 0, 16);
        if (bytes == null) {
            return -2;
        }
        for (int p = 0; p < n; p++) {
            if (bytes[p] != (state.told(p) ? state.people[p].mood : 0)) {
                return p;
            }
        }
        return -1;
    }

    int count(int what) {
        int told = 0;
        int laid = 0;
        int mood = 0;
        for (int p = 0; p < 16; p++) {
            if (state.told(p)) {
                told |= 1 << p;
                mood += state.people[p].mood;
                laid |= state.people[p].laid() ? 1 << p : 0;
            }
        }
        switch (what) {
            case 0: return state.night;
            case 1: return told;
            case 2: return laid;
            case 3: return wishes.size();
            case 4: return law.size();
            case 5: return tape.size();
            case 6: return state.x;
            case 7: return mood;
            default: break;
        }
        return what >= 20 && what < 80 ? state.who((what - 20) % 10, (what - 20) / 10) : -1;
    }
}
