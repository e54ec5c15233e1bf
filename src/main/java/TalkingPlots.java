import java.util.Arrays;

/** A churchyard in which one is laid next to whoever he will go on talking with. */
public final class TalkingPlots {
    public static final int NONE = -1;

    private static final int PEOPLE = 16;
    private static final int PLOTS = 60;
    private static final int WIDTH = 10;
    private static final int ALL_BITS = 65535;
    private static final int TOP_MOOD = 99;
    private static final int LAST_NIGHT = 9999;
    private static final int MOST_NIGHTS = 240;
    private static final int MOST_SAYINGS = 20;
    private static final int LONGEST_ROW = 7;
    private static final int MOST_COUPLED = 10;

    private static final int NOBODY = -2;
    private static final int NOT_TOLD = -2;
    private static final int NOT_AMONG = -3;
    private static final int NO_PLACE = -4;
    private static final int NO_SUCH = -1000;
    /** Less than any TALK can be. */
    private static final int FAR_BELOW = -1000000;

    private final Tape tape;
    private final LawReader lawReader;
    private final BurialReader burialReader;
    private final Night night;
    private final Plan plan;
    private final Company company;
    private final Sayings sayings;
    private final Yard kept;
    private boolean isKept;
    private Yard yard;
    private Yard spareYard;
    private Law law;
    private Law spareLaw;
    private Wishes wishes;
    private Wishes spareWishes;

    public TalkingPlots() {
        tape = new Tape();
        burialReader = new BurialReader(tape);
        night = new Night();
        plan = new Plan();
        company = new Company();
        sayings = new Sayings();
        kept = new Yard();
        yard = new Yard();
        spareYard = new Yard();
        law = new Law();
        spareLaw = new Law();
        lawReader = new LawReader(tape, spareLaw);
        wishes = new Wishes();
        spareWishes = new Wishes();
    }

    public boolean person(int p, int topics, int mood) {
        if (!isOne(p) || topics < 0 || topics > ALL_BITS || mood < 0 || mood > TOP_MOOD) {
            return false;
        }
        yard.tell(p, topics, mood);
        return true;
    }

    public int feed(int a, int b, int c, int d, int e) {
        if (!tape.hasRoom(20)) {
            return NONE;
        }
        tape.add(a);
        tape.add(b);
        tape.add(c);
        tape.add(d);
        tape.add(e);
        return tape.size;
    }

    public int law(int n) {
        if (!tape.open(n, 1, 240)) {
            return NONE;
        }
        int answer = lawReader.read(spareLaw);
        if (answer >= 0) {
            Law before = law;
            law = spareLaw;
            spareLaw = before;
        }
        return answer;
    }

    public int burials(int n) {
        if (!tape.open(n, 1, 120)) {
            return NONE;
        }
        spareYard.copyFrom(yard);
        int answer = burialReader.read(spareYard);
        if (answer >= 0) {
            Yard before = yard;
            yard = spareYard;
            spareYard = before;
        }
        return answer;
    }

    public int wishes(int n) {
        if (!tape.open(n, 1, 120)) {
            return NONE;
        }
        int answer = spareWishes.read(tape);
        if (answer >= 0) {
            Wishes before = wishes;
            wishes = spareWishes;
            spareWishes = before;
        }
        return answer;
    }

    public int nights(int n) {
        if (n < 1 || n > MOST_NIGHTS) {
            return NONE;
        }
        night.pass(yard, law, n);
        return night.talks;
    }

    public int tried(int n, int what) {
        boolean ofMood = what >= 10 && yard.isTold(what - 10);
        boolean ofTopics = what >= 30 && yard.isTold(what - 30);
        boolean known = what >= 0 && what <= 2 || ofMood || ofTopics;
        if (n < 1 || n > MOST_NIGHTS || !known) {
            return NONE;
        }
        spareYard.copyFrom(yard);
        night.pass(spareYard, law, n);
        if (ofMood) {
            return spareYard.mood[what - 10];
        }
        if (ofTopics) {
            return Integer.bitCount(spareYard.topics[what - 30]);
        }
        if (what == 2) {
            return spareYard.silenced();
        }
        return what == 0 ? night.talks : night.learnt;
    }

    public int personIs(int p, int what) {
        if (!yard.isTold(p)) {
            return NONE;
        }
        switch (what) {
            case 0:
                return yard.topics[p];
            case 1:
                return yard.mood[p];
            case 2:
                return yard.plot[p];
            case 3:
                return yard.beside(p);
            case 4:
                return yard.rank(p);
            default:
                return NONE;
        }
    }

    public int talk(int p, int q) {
        if (!yard.isTold(p) || !yard.isTold(q) || p == q) {
            return NO_SUCH;
        }
        return yard.talkOf(p, q);
    }

    public int yardTalk() {
        int twice = 0;
        for (int p = 0; p < PEOPLE; p++) {
            if (yard.isLaid(p)) {
                twice += yard.talkAt(p, yard.plot[p], 0);
            }
        }
        return twice / 2;
    }

    public int best(int p, int what) {
        if (!yard.isTold(p) || what < 0 || what > 1) {
            return NO_SUCH;
        }
        plan.seekPlot(yard, p);
        return what == 0 ? plan.second : plan.more;
    }

    public int move(int what) {
        if (what < 0 || what > 2) {
            return NONE;
        }
        plan.seekMove(yard);
        return plan.tells(what);
    }

    public int change(int what) {
        if (what < 0 || what > 2) {
            return NONE;
        }
        plan.seekChange(yard);
        return plan.tells(what);
    }

    public int hold(int what) {
        if (what < 0 || what > 1) {
            return NONE;
        }
        return what == 0 ? wishes.holding(yard) : wishes.firstBroken(yard);
    }

    public int row(int people, int what) {
        int size = sizeOf(people);
        boolean known = what >= 0 && what < LONGEST_ROW || what == 100 || what == 101;
        if (size < 2 || size > LONGEST_ROW || !known) {
            return NO_SUCH;
        }
        if (!yard.allTold(people)) {
            return NOT_TOLD;
        }
        if (what < LONGEST_ROW && what >= size) {
            return NO_PLACE;
        }
        company.gather(yard, people);
        if (what == 101) {
            return company.rowsThatPlease(wishes);
        }
        company.weighRows();
        return what == 100 ? company.mostInRow() : company.atPlace(what);
    }

    public int couples(int people, int what) {
        int size = sizeOf(people);
        if (size < 2 || size > MOST_COUPLED || !isOne(what) && what != 100) {
            return NO_SUCH;
        }
        if (!yard.allTold(people)) {
            return NOT_AMONG;
        }
        if (what != 100 && (people >> what & 1) == 0) {
            return NOT_AMONG;
        }
        company.gather(yard, people);
        company.weighCouples();
        return what == 100 ? company.mostInCouples() : company.coupledWith(what);
    }

    public int heard(int topic, int what) {
        if (!isOne(topic) || what < 0 || what > 1) {
            return NONE;
        }
        int have = yard.having(topic);
        int nights = 0;
        for (int i = 0; i < PEOPLE; i++) {
            int then = yard.withBeside(have);
            if (then != have) {
                have = then;
                nights++;
            }
        }
        return what == 0 ? nights : have;
    }

    public int circles(int what) {
        if (what == 100) {
            return circleCount();
        }
        return yard.isTold(what) ? yard.circleOf(what) : NONE;
    }

    public int from(int p, int to) {
        if (!yard.isTold(p) || !yard.isTold(to)) {
            return NONE;
        }
        if (!yard.isLaid(p) || !yard.isLaid(to)) {
            return NOBODY;
        }
        int reached = 1 << p;
        for (int steps = 0; steps < PEOPLE; steps++) {
            if ((reached >> to & 1) == 1) {
                return steps;
            }
            reached = yard.withBeside(reached);
        }
        return NOBODY;
    }

    public int thread(int n, int what) {
        boolean known = what >= 0 && what < MOST_SAYINGS || what == 100;
        if (n < 1 || n > MOST_SAYINGS || !known || !tape.open(2 * n, 2, 2 * MOST_SAYINGS)) {
            return NONE;
        }
        sayings.hear(tape, n);
        return what == 100 ? sayings.longest() : sayings.placeOf(what);
    }

    public int good(int y, int what) {
        if (y < 0 || y > 5 || what < 0 || what > 2) {
            return NO_SUCH;
        }
        plan.seekStretch(yard, y);
        return plan.tells(what);
    }

    public int silent(int what) {
        if (what < 0 || what > 2) {
            return NONE;
        }
        long free = yard.freePlots();
        if (what == 2) {
            return Grass.largestBlock(free);
        }
        long still = free & ~Grass.nextTo(Grass.ALL & ~free);
        return what == 0 ? Long.bitCount(still) : Grass.lowest(still);
    }

    public int visit(int p) {
        if (!yard.isTold(p)) {
            return NONE;
        }
        if (!yard.isLaid(p)) {
            return NOBODY;
        }
        long free = yard.freePlots();
        return Grass.steps(free & 1L, Grass.nextTo(1L << yard.plot[p]), free);
    }

    public int visited() {
        long free = yard.freePlots();
        long walked = Grass.spread(free & 1L, free);
        int found = 0;
        for (int p = 0; p < PEOPLE; p++) {
            if (yard.isLaid(p) && (Grass.nextTo(1L << yard.plot[p]) & walked) != 0) {
                found |= 1 << p;
            }
        }
        return found;
    }

    public int alike(int p, int what) {
        if (!yard.isTold(p) || what < 0 || what > 1) {
            return NONE;
        }
        int who = NOBODY;
        int least = NOBODY;
        for (int q = 0; q < PEOPLE; q++) {
            if (q != p && yard.isTold(q)) {
                int unlike = Integer.bitCount(yard.topics[p] ^ yard.topics[q]);
                if (who == NOBODY || unlike < least) {
                    who = q;
                    least = unlike;
                }
            }
        }
        return what == 0 ? who : least;
    }

    public boolean seed(int x) {
        if (x < 0 || x > ALL_BITS) {
            return false;
        }
        yard.drawn = x;
        return true;
    }

    public int keep() {
        kept.copyFrom(yard);
        isKept = true;
        return yard.night;
    }

    public boolean undo() {
        if (!isKept) {
            return false;
        }
        yard.copyFrom(kept);
        return true;
    }

    public int check(int n) {
        if (!tape.open(n, 0, PEOPLE)) {
            return -2;
        }
        for (int p = 0; p < n && p < PEOPLE; p++) {
            int mood = yard.isTold(p) ? yard.mood[p] : 0;
            if (tape.at(p) != mood) {
                return p;
            }
        }
        return NONE;
    }

    public int count(int what) {
        switch (what) {
            case 0:
                return yard.night;
            case 1:
                return yard.told;
            case 2:
                return yard.laidOnes();
            case 3:
                return wishes.size;
            case 4:
                return law.rules;
            case 5:
                return tape.size;
            case 6:
                return yard.drawn;
            case 7:
                return yard.moodOfAll();
            default:
                return what >= 20 && what < 20 + PLOTS ? yard.lies[what - 20] : NONE;
        }
    }

    private int circleCount() {
        int seen = 0;
        int circles = 0;
        for (int p = 0; p < PEOPLE; p++) {
            if (yard.isLaid(p) && (seen >> p & 1) == 0) {
                seen |= yard.circleOf(p);
                circles++;
            }
        }
        return circles;
    }

    private static boolean isOne(int p) {
        return p >= 0 && p < PEOPLE;
    }

    /** How many bits stand for PEOPLE; NONE if others than theirs are set. */
    private static int sizeOf(int people) {
        return people < 0 || people > ALL_BITS ? NONE : Integer.bitCount(people);
    }

    private static int within(int value, int least, int most) {
        return Math.max(least, Math.min(most, value));
    }

    /** The bytes that were fed, and a place in those of them that are being read. */
    private static final class Tape {
        static final int ROOM = 260;
        static final int END = -1;

        final int[] bytes = new int[ROOM];
        int size;
        /** What stands at the place; END behind the text and behind a FAULT, so that reading ends. */
        int sign = END;
        int place;
        int fault;
        private int end;

        boolean hasRoom(int more) {
            return size + more <= ROOM;
        }

        void add(int four) {
            for (int shift = 24; shift >= 0 && size < ROOM; shift -= 8) {
                bytes[size] = four >> shift & 255;
                size++;
            }
        }

        /** The bytes stay readable until more are fed, though the tape is empty from here on. */
        boolean open(int n, int least, int most) {
            if (n < least || n > most || n > size) {
                return false;
            }
            end = n;
            size = 0;
            fault = 0;
            place = -1;
            step();
            return true;
        }

        int at(int i) {
            return i >= 0 && i < end && i < ROOM ? bytes[i] : END;
        }

        void step() {
            place++;
            boolean isThere = fault == 0 && place >= 0 && place < end && place < ROOM;
            sign = isThere ? bytes[place] : END;
        }

        boolean takes(int wanted) {
            if (sign != wanted) {
                return false;
            }
            step();
            return true;
        }

        void wants(int wanted) {
            if (sign == wanted) {
                step();
            } else {
                fail(1, place);
            }
        }

        /** Which of n signs from first on stands here, without going on; NONE if none of them. */
        int among(int first, int n) {
            return sign >= first && sign < first + n ? sign - first : NONE;
        }

        boolean hasNextLine() {
            if (fault != 0 || place >= end) {
                return false;
            }
            wants(';');
            return fault == 0;
        }

        /** Only the first FAULT counts. */
        void fail(int number, int where) {
            if (fault == 0) {
                fault = -1000 * number - where;
                sign = END;
            }
        }

        int answer(int lines) {
            return fault != 0 ? fault : lines;
        }
    }

    /** PEOPLE, where they lie, THE NIGHT and X: all that is KEPT and UNDONE. */
    private static final class Yard {
        final int[] topics = new int[PEOPLE];
        final int[] mood = new int[PEOPLE];
        final int[] plot = new int[PEOPLE];
        final int[] lies = new int[PLOTS];
        int told;
        int night;
        int drawn = 1;

        Yard() {
            Arrays.fill(plot, NOBODY);
            Arrays.fill(lies, NOBODY);
        }

        void copyFrom(Yard other) {
            System.arraycopy(other.topics, 0, topics, 0, PEOPLE);
            System.arraycopy(other.mood, 0, mood, 0, PEOPLE);
            System.arraycopy(other.plot, 0, plot, 0, PEOPLE);
            System.arraycopy(other.lies, 0, lies, 0, PLOTS);
            told = other.told;
            night = other.night;
            drawn = other.drawn;
        }

        boolean isTold(int p) {
            return isOne(p) && (told >> p & 1) == 1;
        }

        boolean allTold(int people) {
            return (people & ~told) == 0;
        }

        boolean isLaid(int p) {
            return isOne(p) && plot[p] >= 0 && plot[p] < PLOTS;
        }

        int laidOnes() {
            int laid = 0;
            for (int p = 0; p < PEOPLE; p++) {
                laid |= isLaid(p) ? 1 << p : 0;
            }
            return laid;
        }

        int moodOfAll() {
            int all = 0;
            for (int p = 0; p < PEOPLE; p++) {
                all += isTold(p) ? mood[p] : 0;
            }
            return all;
        }

        int silenced() {
            int found = 0;
            for (int p = 0; p < PEOPLE; p++) {
                found += isLaid(p) && mood[p] == 0 ? 1 : 0;
            }
            return found;
        }

        int having(int topic) {
            int have = 0;
            for (int p = 0; p < PEOPLE; p++) {
                have |= isTold(p) && (topics[p] >> topic & 1) == 1 ? 1 << p : 0;
            }
            return have;
        }

        int rank(int p) {
            int ahead = 0;
            for (int q = 0; q < PEOPLE; q++) {
                boolean first = mood[q] > mood[p] || mood[q] == mood[p] && q < p;
                ahead += isTold(q) && first ? 1 : 0;
            }
            return ahead;
        }

        void tell(int p, int itsTopics, int itsMood) {
            takeUp(p);
            topics[p] = itsTopics;
            mood[p] = itsMood;
            told |= 1 << p;
        }

        void takeUp(int p) {
            if (isLaid(p)) {
                lies[plot[p]] = NOBODY;
                plot[p] = NOBODY;
            }
        }

        void lay(int p, int where) {
            takeUp(p);
            if (where >= 0 && where < PLOTS) {
                plot[p] = where;
                lies[where] = p;
            }
        }

        void exchange(int p, int q) {
            int ofP = plot[p];
            int ofQ = plot[q];
            takeUp(p);
            takeUp(q);
            lay(p, ofQ);
            lay(q, ofP);
        }

        int bitOn(int where) {
            boolean taken = where >= 0 && where < PLOTS && lies[where] >= 0;
            return taken ? 1 << lies[where] : 0;
        }

        int besidePlot(int where) {
            int x = where % WIDTH;
            int left = x > 0 ? bitOn(where - 1) : 0;
            int right = x < WIDTH - 1 ? bitOn(where + 1) : 0;
            return left | right | bitOn(where - WIDTH) | bitOn(where + WIDTH);
        }

        int beside(int p) {
            return isLaid(p) ? besidePlot(plot[p]) : 0;
        }

        int withBeside(int people) {
            int all = people;
            for (int p = 0; p < PEOPLE; p++) {
                all |= (people >> p & 1) == 1 ? beside(p) : 0;
            }
            return all;
        }

        int circleOf(int p) {
            int circle = isLaid(p) ? 1 << p : 0;
            for (int i = 0; i < PEOPLE; i++) {
                circle = withBeside(circle);
            }
            return circle;
        }

        long freePlots() {
            long free = 0;
            for (int i = 0; i < PLOTS; i++) {
                free |= lies[i] < 0 ? 1L << i : 0L;
            }
            return free;
        }

        int talkOf(int p, int q) {
            int shared = Integer.bitCount(topics[p] & topics[q]);
            return 3 * shared - Integer.bitCount(topics[p] ^ topics[q]);
        }

        /** TALK of p, if he lay there, with all BESIDE him but those left out. */
        int talkAt(int p, int where, int leftOut) {
            int others = besidePlot(where) & ~(1 << p) & ~leftOut;
            int sum = 0;
            for (int q = 0; q < PEOPLE; q++) {
                sum += (others >> q & 1) == 1 ? talkOf(p, q) : 0;
            }
            return sum;
        }

        int drawNext() {
            drawn = 25173 * drawn + 13849 & ALL_BITS;
            return drawn % 10;
        }
    }

    /** PLOTS as bits, 10 Y and X, and walks over them. */
    private static final class Grass {
        static final long ALL = (1L << PLOTS) - 1;
        static final long LEFT = 1L | 1L << 10 | 1L << 20 | 1L << 30 | 1L << 40 | 1L << 50;
        static final long RIGHT = LEFT << 9;

        static long nextTo(long plots) {
            long aside = (plots & ~LEFT) >>> 1 | (plots & ~RIGHT) << 1;
            return (aside | plots >>> WIDTH | plots << WIDTH) & ALL;
        }

        static long spread(long start, long free) {
            long reached = start;
            for (int i = 0; i < PLOTS; i++) {
                reached |= nextTo(reached) & free;
            }
            return reached;
        }

        static int steps(long start, long goal, long free) {
            long reached = start;
            for (int steps = 0; steps < PLOTS; steps++) {
                if ((reached & goal) != 0) {
                    return steps;
                }
                reached |= nextTo(reached) & free;
            }
            return NOBODY;
        }

        static int lowest(long plots) {
            for (int i = 0; i < PLOTS; i++) {
                if ((plots >> i & 1L) == 1L) {
                    return i;
                }
            }
            return NOBODY;
        }

        static int largestBlock(long free) {
            int largest = 0;
            long left = free;
            for (int i = 0; i < PLOTS && left != 0; i++) {
                long block = spread(left & -left, free);
                largest = Math.max(largest, Long.bitCount(block));
                left &= ~block;
            }
            return largest;
        }
    }

    /** BURIALS, done in a spare yard, which is left aside if there is a FAULT. */
    private static final class BurialReader {
        static final int MOST_LINES = 20;

        private final Tape tape;

        BurialReader(Tape tape) {
            this.tape = tape;
        }

        int read(Yard yard) {
            int lines = 0;
            boolean more = true;
            while (more && lines <= MOST_LINES) {
                readLine(yard, lines);
                lines++;
                more = tape.hasNextLine();
            }
            return tape.answer(lines);
        }

        private void readLine(Yard yard, int number) {
            if (tape.among('a', PEOPLE) != NONE && number >= MOST_LINES) {
                tape.fail(4, tape.place);
            }
            int p = readOne(yard);
            if (p == NONE) {
                return;
            }
            if (tape.takes('@')) {
                readPlot(yard, p);
            } else if (tape.takes('!')) {
                yard.takeUp(p);
            } else if (tape.takes('=')) {
                int q = readOne(yard);
                if (q != NONE) {
                    yard.exchange(p, q);
                }
            } else if (tape.takes('+')) {
                yard.topics[p] |= readTopic();
            } else if (tape.takes('-')) {
                yard.topics[p] &= ~readTopic();
            } else {
                tape.fail(1, tape.place);
            }
        }

        private int readOne(Yard yard) {
            int p = readAmong('a', PEOPLE);
            if (p != NONE && !yard.isTold(p)) {
                tape.fail(7, tape.place - 1);
                return NONE;
            }
            return p;
        }

        private int readTopic() {
            int topic = readAmong('A', PEOPLE);
            return topic == NONE ? 0 : 1 << topic;
        }

        private void readPlot(Yard yard, int p) {
            int placeOfX = tape.place;
            int x = readAmong('0', WIDTH);
            tape.wants(',');
            int y = readAmong('0', WIDTH);
            if (y > 5) {
                tape.fail(3, tape.place - 1);
            }
            if (tape.fault != 0) {
                return;
            }
            int where = y * WIDTH + x;
            if ((yard.bitOn(where) & ~(1 << p)) != 0) {
                tape.fail(8, placeOfX);
                return;
            }
            yard.lay(p, where);
        }

        private int readAmong(int first, int n) {
            int which = tape.among(first, n);
            if (which == NONE) {
                tape.fail(1, tape.place);
            } else {
                tape.step();
            }
            return which;
        }
    }

    /** WISHES: of each its sign, who has it, and whom it names (NONE if nobody). */
    private static final class Wishes {
        static final int MOST_LINES = 24;

        final int[] sign = new int[MOST_LINES];
        final int[] one = new int[MOST_LINES];
        final int[] other = new int[MOST_LINES];
        int size;

        int read(Tape tape) {
            size = 0;
            boolean more = true;
            for (int i = 0; more && i <= MOST_LINES; i++) {
                readLine(tape);
                more = tape.hasNextLine();
            }
            return tape.answer(size);
        }

        private void readLine(Tape tape) {
            int p = tape.among('a', PEOPLE);
            if (p == NONE) {
                tape.fail(1, tape.place);
            } else if (size >= MOST_LINES) {
                tape.fail(4, tape.place);
            }
            tape.step();
            int what = tape.sign;
            int whom = NONE;
            if (what == '+' || what == '-') {
                tape.step();
                whom = tape.among('a', PEOPLE);
                if (whom == NONE) {
                    tape.fail(1, tape.place);
                } else if (whom == p) {
                    tape.fail(6, tape.place);
                }
            } else if (what != '#' && what != '.') {
                tape.fail(1, tape.place);
            }
            tape.step();
            add(what, p, whom);
        }

        private void add(int what, int p, int whom) {
            if (size < MOST_LINES) {
                sign[size] = what;
                one[size] = p;
                other[size] = whom;
                size++;
            }
        }

        int holding(Yard yard) {
            int found = 0;
            for (int i = 0; i < size; i++) {
                found += holds(i, yard) ? 1 : 0;
            }
            return found;
        }

        int firstBroken(Yard yard) {
            for (int i = 0; i < size; i++) {
                if (!holds(i, yard)) {
                    return i;
                }
            }
            return NOBODY;
        }

        private boolean holds(int i, Yard yard) {
            int p = one[i];
            boolean near = other[i] != NONE && (yard.beside(p) >> other[i] & 1) == 1;
            switch (sign[i]) {
                case '+':
                    return near;
                case '-':
                    return !near;
                case '#':
                    return yard.isLaid(p) && isByWall(yard.plot[p]);
                default:
                    return yard.isLaid(p) && yard.beside(p) == 0;
            }
        }

        private static boolean isByWall(int plot) {
            int x = plot % WIDTH;
            return x == 0 || x == WIDTH - 1 || plot < WIDTH || plot >= PLOTS - WIDTH;
        }
    }

    /** THE LAW as steps for a stack, E and C of each RULE one behind the other. */
    private static final class Law {
        static final int MOST_RULES = 16;
        static final int MOST_STEPS = 240;
        static final int NUMBER = 0;
        static final int LETTER = 1;
        static final int NOT = 2;
        static final int SKIP_IF = 3;
        static final int SKIP_IF_NOT = 4;
        static final int P = 0;
        static final int K = 1;
        static final int S = 2;
        static final int U = 3;
        static final int M = 4;
        static final int O = 5;
        static final int N = 6;
        static final int T = 7;

        final int[] step = new int[MOST_STEPS];
        final int[] with = new int[MOST_STEPS];
        int steps;
        final int[] letter = new int[MOST_RULES];
        final int[] start = new int[MOST_RULES];
        final int[] middle = new int[MOST_RULES];
        final int[] end = new int[MOST_RULES];
        int rules;
        /** What the letters p, k, s, u, m, o, n, t stand for when it is asked. */
        final int[] values = new int[8];
        private final int[] stack = new int[32];
        private int top;
        private boolean flag;

        void clear() {
            steps = 0;
            rules = 0;
        }

        /** Where the step was put, so that a skip can be told its goal later. */
        int add(int what, int itsWith) {
            if (steps >= MOST_STEPS) {
                return NONE;
            }
            step[steps] = what;
            with[steps] = itsWith;
            steps++;
            return steps - 1;
        }

        void endSkip(int where) {
            if (where >= 0 && where < MOST_STEPS) {
                with[where] = steps;
            }
        }

        void addRule(int itsLetter, int itsStart, int itsMiddle) {
            if (rules < MOST_RULES) {
                letter[rules] = itsLetter;
                start[rules] = itsStart;
                middle[rules] = itsMiddle;
                end[rules] = steps;
                rules++;
            }
        }

        /** The E of the first RULE of a letter whose C holds, from 0 to most. */
        int ask(int itsLetter, int most) {
            for (int i = 0; i < rules; i++) {
                if (letter[i] == itsLetter && run(middle[i], end[i]) && flag) {
                    boolean isReckoned = run(start[i], middle[i]) && top == 1;
                    return isReckoned ? within(stack[0], 0, most) : 0;
                }
            }
            return 0;
        }

        boolean keepsSilent() {
            for (int i = 0; i < rules; i++) {
                if (letter[i] == 'q' && run(middle[i], end[i]) && flag) {
                    return true;
                }
            }
            return false;
        }

        /** False if it is REFUSED. Skips only go ahead, so the steps come to an end. */
        private boolean run(int first, int behind) {
            top = 0;
            flag = false;
            int at = first;
            for (int i = 0; i < MOST_STEPS && at >= 0 && at < behind && at < MOST_STEPS; i++) {
                int what = step[at];
                int itsWith = with[at];
                boolean skips = what == SKIP_IF && flag || what == SKIP_IF_NOT && !flag;
                at = skips ? itsWith : at + 1;
                if (!take(what, itsWith)) {
                    return false;
                }
            }
            return true;
        }

        private boolean take(int what, int itsWith) {
            switch (what) {
                case NUMBER:
                    return push(itsWith);
                case LETTER:
                    return push(itsWith >= 0 && itsWith < values.length ? values[itsWith] : 0);
                case NOT:
                    flag = !flag;
                    return true;
                case SKIP_IF:
                case SKIP_IF_NOT:
                    return true;
                default:
                    return reckon(what);
            }
        }

        private boolean push(int value) {
            if (top < 0 || top >= stack.length) {
                return false;
            }
            stack[top] = value;
            top++;
            return true;
        }

        /** A sign of the text takes the two on top of the stack; what it makes is put there. */
        private boolean reckon(int sign) {
            if (top < 2 || top > stack.length) {
                return false;
            }
            top--;
            int left = stack[top - 1];
            int right = stack[top];
            if ((sign == '/' || sign == '%') && right == 0) {
                return false;
            }
            switch (sign) {
                case '+':
                    stack[top - 1] = left + right;
                    return true;
                case '-':
                    stack[top - 1] = left - right;
                    return true;
                case '*':
                    stack[top - 1] = left * right;
                    return true;
                case '/':
                    stack[top - 1] = right == 0 ? 0 : left / right;
                    return true;
                case '%':
                    stack[top - 1] = right == 0 ? 0 : left % right;
                    return true;
                default:
                    top--;
                    flag = sign == '<' ? left < right : sign == '>' ? left > right : left == right;
                    return true;
            }
        }
    }

    /** Turns the text of THE LAW into steps; depth counts the ( [ ! that are open. */
    private static final class LawReader {
        static final int MOST_OPEN = 6;
        static final int MOST_BYTES = 240;

        private final Tape tape;
        private Law law;

        LawReader(Tape tape, Law law) {
            this.tape = tape;
            this.law = law;
        }

        int read(Law into) {
            law = into;
            law.clear();
            boolean more = true;
            for (int i = 0; more && i <= Law.MOST_RULES; i++) {
                int letter = tape.sign;
                openRule(letter);
                int start = law.steps;
                if (letter != 'q') {
                    readSum(0);
                }
                int middle = law.steps;
                tape.wants('(');
                readCondition(1);
                tape.wants(')');
                law.addRule(letter, start, middle);
                more = tape.hasNextLine();
            }
            return tape.answer(law.rules);
        }

        private void openRule(int letter) {
            boolean isWhole = letter == 'e' || letter == 'h' || letter == 'g' || letter == 'b';
            if (!isWhole && letter != 'q') {
                tape.fail(1, tape.place);
            } else if (law.rules >= Law.MOST_RULES) {
                tape.fail(4, tape.place);
            }
            tape.step();
        }

        /** A skip ends where the next one of its kind begins: that one then skips on. */
        private void readCondition(int depth) {
            int overTest = NONE;
            int overPart = NONE;
            readTest(depth);
            for (int i = 0; i < MOST_BYTES && (tape.sign == '&' || tape.sign == '|'); i++) {
                law.endSkip(overTest);
                if (tape.sign == '&') {
                    overTest = law.add(Law.SKIP_IF_NOT, 0);
                } else {
                    overTest = NONE;
                    law.endSkip(overPart);
                    overPart = law.add(Law.SKIP_IF, 0);
                }
                tape.step();
                readTest(depth);
            }
            law.endSkip(overTest);
            law.endSkip(overPart);
        }

        private void readTest(int depth) {
            if (tape.sign == '!') {
                if (opens(depth)) {
                    readTest(depth + 1);
                    law.add(Law.NOT, 0);
                }
            } else if (tape.sign == '(') {
                if (opens(depth)) {
                    readCondition(depth + 1);
                    tape.wants(')');
                }
            } else {
                readSum(depth);
                int sign = tape.sign;
                if (sign != '<' && sign != '>' && sign != '=') {
                    tape.fail(1, tape.place);
                }
                tape.step();
                readSum(depth);
                law.add(sign, 0);
            }
        }

        /** E: a + or - waits until the TERM behind it is read. */
        private void readSum(int depth) {
            int waiting = NONE;
            readFactor(depth);
            for (int i = 0; i < MOST_BYTES && isReckoned(tape.sign); i++) {
                int sign = tape.sign;
                boolean endsTerm = sign == '+' || sign == '-';
                if (endsTerm) {
                    addIfAny(waiting);
                    waiting = sign;
                }
                tape.step();
                readFactor(depth);
                if (!endsTerm) {
                    law.add(sign, 0);
                }
            }
            addIfAny(waiting);
        }

        private static boolean isReckoned(int sign) {
            return sign == '+' || sign == '-' || sign == '*' || sign == '/' || sign == '%';
        }

        private void addIfAny(int sign) {
            if (sign != NONE) {
                law.add(sign, 0);
            }
        }

        private void readFactor(int depth) {
            if (tape.sign == '[') {
                if (opens(depth)) {
                    readSum(depth + 1);
                    tape.wants(']');
                }
            } else if (tape.among('0', 10) != NONE) {
                readNumber();
            } else {
                readValue();
            }
        }

        private boolean opens(int depth) {
            if (depth >= MOST_OPEN) {
                tape.fail(5, tape.place);
                return false;
            }
            tape.step();
            return true;
        }

        private void readNumber() {
            int number = 0;
            for (int i = 0; i < 5 && tape.among('0', 10) != NONE; i++) {
                number = 10 * number + tape.among('0', 10);
                tape.step();
            }
            if (tape.among('0', 10) != NONE) {
                tape.fail(2, tape.place);
            }
            law.add(Law.NUMBER, number);
        }

        private void readValue() {
            int value = valueOf(tape.sign);
            if (value == NONE) {
                tape.fail(1, tape.place);
            }
            tape.step();
            law.add(Law.LETTER, value);
        }

        private static int valueOf(int sign) {
            switch (sign) {
                case 'p':
                    return Law.P;
                case 'k':
                    return Law.K;
                case 's':
                    return Law.S;
                case 'u':
                    return Law.U;
                case 'm':
                    return Law.M;
                case 'o':
                    return Law.O;
                case 'n':
                    return Law.N;
                case 't':
                    return Law.T;
                default:
                    return NONE;
            }
        }
    }

    /** NIGHTS that go by in a yard, and what was said in them. */
    private static final class Night {
        int talks;
        int learnt;

        void pass(Yard yard, Law law, int n) {
            talks = 0;
            learnt = 0;
            for (int i = 0; i < n && yard.night < LAST_NIGHT; i++) {
                for (int p = 0; p < PEOPLE; p++) {
                    if (yard.isLaid(p) && yard.mood[p] > 0) {
                        wake(yard, law, p);
                    }
                }
                yard.night++;
            }
        }

        private void wake(Yard yard, Law law, int p) {
            int others = yard.beside(p);
            law.values[Law.M] = yard.mood[p];
            law.values[Law.N] = Integer.bitCount(others);
            law.values[Law.T] = yard.night % 100;
            tellLaw(yard, law, p, NONE);
            if (law.keepsSilent()) {
                return;
            }
            int k = favourite(yard, law, p, others);
            tellLaw(yard, law, p, k);
            int tenths = law.ask('h', 10);
            int more = law.ask('g', TOP_MOOD);
            int less = law.ask('b', TOP_MOOD);
            if (k != NONE) {
                talks++;
                if (yard.drawNext() < tenths) {
                    learn(yard, p, k);
                }
            }
            yard.mood[p] = within(yard.mood[p] + more - less, 0, TOP_MOOD);
        }

        private int favourite(Yard yard, Law law, int p, int others) {
            int found = NONE;
            int most = 0;
            for (int k = 0; k < PEOPLE; k++) {
                if ((others >> k & 1) == 1 && yard.mood[k] > 0) {
                    tellLaw(yard, law, p, k);
                    int liked = law.ask('e', 9999);
                    if (liked > most) {
                        most = liked;
                        found = k;
                    }
                }
            }
            return found;
        }

        /** What of THE LAW's letters hangs on with whom p talks (NONE: nobody). */
        private void tellLaw(Yard yard, Law law, int p, int k) {
            boolean isAlone = k < 0 || k >= PEOPLE;
            int mine = yard.topics[p];
            int its = isAlone ? 0 : yard.topics[k];
            law.values[Law.P] = p;
            law.values[Law.K] = isAlone ? 0 : k;
            law.values[Law.S] = Integer.bitCount(mine & its);
            law.values[Law.U] = Integer.bitCount(its & ~mine);
            law.values[Law.O] = isAlone ? 0 : yard.mood[k];
        }

        private void learn(Yard yard, int p, int k) {
            int unknown = yard.topics[k] & ~yard.topics[p];
            if (unknown != 0) {
                yard.topics[p] |= unknown & -unknown;
                learnt++;
            }
        }
    }

    /** The best of what was looked through: two numbers that name it, and how much it is. */
    private static final class Plan {
        int first;
        int second;
        int more;

        int tells(int what) {
            return what == 0 ? first : what == 1 ? second : more;
        }

        private void begin(int least) {
            first = NOBODY;
            second = NOBODY;
            more = least;
        }

        /** Of like ones the one offered first stays. */
        private void offer(int itsFirst, int itsSecond, int much) {
            if (much > more) {
                first = itsFirst;
                second = itsSecond;
                more = much;
            }
        }

        private void noneIfNoMore() {
            if (first == NOBODY) {
                more = NOBODY;
            }
        }

        void seekPlot(Yard yard, int p) {
            begin(FAR_BELOW);
            for (int where = 0; where < PLOTS; where++) {
                if ((yard.bitOn(where) & ~(1 << p)) == 0) {
                    offer(p, where, yard.talkAt(p, where, 0));
                }
            }
        }

        void seekMove(Yard yard) {
            begin(0);
            for (int p = 0; p < PEOPLE; p++) {
                int now = yard.isLaid(p) ? yard.talkAt(p, yard.plot[p], 0) : 0;
                for (int where = 0; where < PLOTS && yard.isLaid(p); where++) {
                    if (yard.bitOn(where) == 0) {
                        offer(p, where, yard.talkAt(p, where, 0) - now);
                    }
                }
            }
            noneIfNoMore();
        }

        void seekChange(Yard yard) {
            begin(0);
            for (int p = 0; p < PEOPLE; p++) {
                for (int q = p + 1; q < PEOPLE; q++) {
                    if (yard.isLaid(p) && yard.isLaid(q)) {
                        offer(p, q, gainByChange(yard, p, q));
                    }
                }
            }
            noneIfNoMore();
        }

        /** TALK of the two with each other is the same before and after, so it is left out. */
        private static int gainByChange(Yard yard, int p, int q) {
            int ofP = yard.plot[p];
            int ofQ = yard.plot[q];
            int then = yard.talkAt(p, ofQ, 1 << q) + yard.talkAt(q, ofP, 1 << p);
            int now = yard.talkAt(p, ofP, 1 << q) + yard.talkAt(q, ofQ, 1 << p);
            return then - now;
        }

        void seekStretch(Yard yard, int y) {
            begin(FAR_BELOW);
            for (int from = 0; from < WIDTH; from++) {
                int sum = 0;
                for (int to = from; to < WIDTH; to++) {
                    int where = y * WIDTH + to;
                    int who = where >= 0 && where < PLOTS ? yard.lies[where] : NOBODY;
                    sum += who >= 0 ? yard.talkAt(who, where, 0) : 0;
                    offer(from, to, sum);
                }
            }
        }
    }

    /** Some PEOPLE, numbered anew from 0, for ROWS and COUPLES of them. */
    private static final class Company {
        private final int[] member = new int[MOST_COUPLED];
        private final int[] talk = new int[MOST_COUPLED * MOST_COUPLED];
        /** For ROWS by set and last one, for COUPLES by set alone. */
        private final int[] most = new int[1 << MOST_COUPLED];
        private final int[] ways = new int[LONGEST_ROW << LONGEST_ROW];
        private final int[] near = new int[LONGEST_ROW];
        private final int[] apart = new int[LONGEST_ROW];
        private int ends;
        private boolean never;
        private int size;

        void gather(Yard yard, int people) {
            size = 0;
            for (int p = 0; p < PEOPLE; p++) {
                if ((people >> p & 1) == 1 && size < MOST_COUPLED) {
                    member[size] = p;
                    size++;
                }
            }
            for (int i = 0; i < size; i++) {
                for (int j = 0; j < size; j++) {
                    talk[i * MOST_COUPLED + j] = yard.talkOf(member[i], member[j]);
                }
            }
        }

        private int all() {
            return (1 << size) - 1;
        }

        private int numberOf(int p) {
            for (int i = 0; i < size; i++) {
                if (member[i] == p) {
                    return i;
                }
            }
            return NONE;
        }

        /** The most TALK that those who are not in the set yet can add behind its last one. */
        void weighRows() {
            for (int set = all(); set > 0; set--) {
                for (int last = 0; last < size; last++) {
                    most[set * LONGEST_ROW + last] = set == all() ? 0 : mostBehind(set, last);
                }
            }
        }

        private int mostBehind(int set, int last) {
            int found = FAR_BELOW;
            for (int i = 0; i < size; i++) {
                if ((set >> i & 1) == 0) {
                    found = Math.max(found, addedBy(set, last, i));
                }
            }
            return found;
        }

        private int addedBy(int set, int last, int i) {
            return talk[last * MOST_COUPLED + i] + most[(set | 1 << i) * LONGEST_ROW + i];
        }

        int mostInRow() {
            int found = FAR_BELOW;
            for (int i = 0; i < size; i++) {
                found = Math.max(found, most[(1 << i) * LONGEST_ROW + i]);
            }
            return found;
        }

        int atPlace(int place) {
            int last = firstInRow();
            int set = 1 << last;
            for (int i = 0; i < place && i < LONGEST_ROW; i++) {
                last = lowestBehind(set, last);
                set |= 1 << last;
            }
            return member[last];
        }

        private int firstInRow() {
            int found = mostInRow();
            for (int i = 0; i < size; i++) {
                if (most[(1 << i) * LONGEST_ROW + i] == found) {
                    return i;
                }
            }
            return 0;
        }

        private int lowestBehind(int set, int last) {
            int found = most[set * LONGEST_ROW + last];
            for (int i = 0; i < size; i++) {
                if ((set >> i & 1) == 0 && addedBy(set, last, i) == found) {
                    return i;
                }
            }
            return 0;
        }

        int rowsThatPlease(Wishes wishes) {
            takeWishes(wishes);
            if (never) {
                return 0;
            }
            for (int set = all(); set > 0; set--) {
                for (int last = 0; last < size; last++) {
                    ways[set * LONGEST_ROW + last] = set == all() ? 1 : waysBehind(set, last);
                }
            }
            int sum = 0;
            for (int i = 0; i < size; i++) {
                sum += ways[(1 << i) * LONGEST_ROW + i];
            }
            return sum;
        }

        private int waysBehind(int set, int last) {
            boolean isLastPlace = Integer.bitCount(set) == size - 1;
            int sum = 0;
            for (int i = 0; i < size; i++) {
                boolean isFree = (set >> i & 1) == 0;
                boolean nearOnes = (near[i] & set & ~(1 << last)) == 0;
                boolean apartOnes = (apart[i] >> last & 1) == 0;
                boolean byEnd = (ends >> i & 1) == 0 || isLastPlace;
                if (isFree && nearOnes && apartOnes && byEnd) {
                    sum += ways[(set | 1 << i) * LONGEST_ROW + i];
                }
            }
            return sum;
        }

        private void takeWishes(Wishes wishes) {
            Arrays.fill(near, 0);
            Arrays.fill(apart, 0);
            ends = 0;
            never = false;
            for (int i = 0; i < wishes.size; i++) {
                int one = numberOf(wishes.one[i]);
                int other = numberOf(wishes.other[i]);
                boolean namesTwo = wishes.other[i] != NONE;
                if (one != NONE && one < LONGEST_ROW && (!namesTwo || other != NONE)) {
                    takeWish(wishes.sign[i], one, other);
                }
            }
        }

        private void takeWish(int sign, int one, int other) {
            boolean named = other >= 0 && other < LONGEST_ROW;
            if (sign == '#') {
                ends |= 1 << one;
            } else if (sign == '.') {
                never = true;
            } else if (sign == '+' && named) {
                near[one] |= 1 << other;
                near[other] |= 1 << one;
            } else if (sign == '-' && named) {
                apart[one] |= 1 << other;
                apart[other] |= 1 << one;
            }
        }

        /** The most TALK in twos of each set. */
        void weighCouples() {
            most[0] = 0;
            for (int set = 1; set <= all(); set++) {
                int one = lowestOf(set);
                int found = most[set & ~(1 << one)];
                for (int other = one + 1; other < size; other++) {
                    if (canCouple(set, one, other)) {
                        found = Math.max(found, withCouple(set, one, other));
                    }
                }
                most[set] = found;
            }
        }

        private int lowestOf(int set) {
            for (int i = 0; i < size; i++) {
                if ((set >> i & 1) == 1) {
                    return i;
                }
            }
            return 0;
        }

        private boolean canCouple(int set, int one, int other) {
            return (set >> other & 1) == 1 && talk[one * MOST_COUPLED + other] > 0;
        }

        private int withCouple(int set, int one, int other) {
            return talk[one * MOST_COUPLED + other] + most[set & ~(1 << one) & ~(1 << other)];
        }

        int mostInCouples() {
            return most[all()];
        }

        int coupledWith(int p) {
            int asked = numberOf(p);
            int set = all();
            for (int i = 0; i < size && set != 0; i++) {
                int one = lowestOf(set);
                int other = lowestOther(set, one);
                if (one == asked) {
                    return other == NONE ? NOBODY : member[other];
                }
                if (other != NONE && other == asked) {
                    return member[one];
                }
                set &= ~(1 << one);
                set &= other == NONE ? set : ~(1 << other);
            }
            return NOBODY;
        }

        private int lowestOther(int set, int one) {
            for (int other = one + 1; other < size; other++) {
                if (canCouple(set, one, other) && withCouple(set, one, other) == most[set]) {
                    return other;
                }
            }
            return NONE;
        }
    }

    /** EAVESDROPPING: of each saying how long a THREAD from it on can be. */
    private static final class Sayings {
        private final int[] topics = new int[MOST_SAYINGS];
        private final int[] length = new int[MOST_SAYINGS];
        private int size;

        void hear(Tape tape, int n) {
            size = Math.min(n, MOST_SAYINGS);
            for (int i = 0; i < size; i++) {
                topics[i] = tape.at(2 * i) << 8 | tape.at(2 * i + 1);
            }
            for (int i = size - 1; i >= 0; i--) {
                length[i] = 1;
                for (int j = i + 1; j < size; j++) {
                    if ((topics[i] & topics[j]) != 0) {
                        length[i] = Math.max(length[i], 1 + length[j]);
                    }
                }
            }
        }

        int longest() {
            int found = 0;
            for (int i = 0; i < size; i++) {
                found = Math.max(found, length[i]);
            }
            return found;
        }

        /** The lowest saying that still lets the THREAD get as long is taken at each place. */
        int placeOf(int which) {
            int left = longest();
            int linked = ALL_BITS;
            boolean isFirst = true;
            int place = 0;
            for (int i = 0; i < size && left > 0; i++) {
                if (length[i] == left && (isFirst || (topics[i] & linked) != 0)) {
                    if (place == which) {
                        return i;
                    }
                    linked = topics[i];
                    isFirst = false;
                    place++;
                    left--;
                }
            }
            return NO_PLACE;
        }
    }
}
