import java.util.Arrays;

/** A lake with four landings and a boat: one is taken on just as another one is put off. ../shared/DOC.md says all. */
public final class OneForOne {
    public static final int NONE = -1, BAD = -2, STATE = -3, FULL = -4;
    public static final long NO = -4611686018427387904L;

    private static final int NO_SUCH = -5, NO_WHAT = -7;
    private static final int NOTHING_THERE = -11, OUTSIDE = -12, OTHER_SORT = -13, BELOW_ZERO = -14;

    private static final int LANDINGS = 4, ABOARD = 4, PLACES = 5, MOST_ABOARD = 3;
    private static final int MOST_PEOPLE = 6, MOST_TEXTS = 6, MOST_MOVES = 16;
    private static final int TAPE_ROOM = 160, FED_AT_ONCE = 5, MOST_BYTE = 255;
    private static final int MOST_HOURS = 400, LONGEST_ROW = 99, MOST_GAIN = 999, MOST_BETWEEN = 9;
    private static final int MOST_DRAWN = 40, MOST_SEED = 99999, MOST_SEEDS = 20;
    private static final int SHEETS = 4, SHEET_ROOM = 40, SORTS = 3, MISSING = -1;

    private static final int GOAT = 1, CHILD = 2, PAID = 3, KNITTING = 4, TWIN = 5, KINDS = 6, A_LANDING = 6;
    private static final int[] KIND_ABOVE = {-1, 0, 0, 0, 3, 2};

    private static final int MAY = 0, ROW = 1, GAIN = 2, PARTS = 3;
    private static final int BY_HOURS = 0, BY_SWAPS = 1, BY_ROWINGS = 2;
    private static final int ROW_MOVE = 0, SWAP_MOVE = 1, WAIT_MOVE = 2, MOST_WAIT = 99;
    private static final int WITH_ALL_STATES = -1;
    private static final String FIRST_TEXT = "may 1 ; row base ; gain base * (hour < by + 1) ;";

    private final Lake lake = new Lake();
    private final Lake kept = new Lake();
    private boolean hasImage;
    private final Law[] lawBook = new Law[MOST_TEXTS];
    private int texts;
    private final Reader reader;
    private final Rules rules;
    private final Search search;
    private final Trip trip;
    private boolean explored;
    private final Sheet[] sheets = new Sheet[SHEETS];

    public OneForOne() {
        for (int t = 0; t < lawBook.length; t++) {
            lawBook[t] = new Law();
        }
        for (int s = 0; s < sheets.length; s++) {
            sheets[s] = new Sheet();
        }
        reader = new Reader(lawBook[0]);
        for (int i = 0; i < FIRST_TEXT.length(); i++) {
            reader.append(FIRST_TEXT.charAt(i));
        }
        reader.faultOf(lawBook[0]);
        reader.size = 0;
        texts = 1;
        rules = new Rules(lake, lawBook[0]);
        search = new Search(rules);
        trip = new Trip(rules);
    }

    // ---- the lake, the law.

    public int far(int u, int v, int h) {
        if (!isLanding(u) || !isLanding(v) || u == v) {
            return NONE;
        }
        if (h < 1 || h > MOST_BETWEEN) {
            return BAD;
        }
        explored = false;
        return lake.setHours(u, v, h);
    }

    public int moor(int l) {
        if (!isLanding(l)) {
            return BAD;
        }
        explored = false;
        int was = lake.boat;
        lake.boat = l;
        return was;
    }

    public int count(int what) {
        switch (what) {
            case 0:
                return lake.boat;
            case 1:
                return lake.people;
            case 2:
                return Integer.bitCount(lake.whoIsAt(ABOARD));
            case 3:
                return trip.moves;
            case 4:
                return texts;
            case 5:
                return lake.law;
            case 6:
                return reader.size;
            default:
                return BAD;
        }
    }

    public int feed(int n, int a, int b, int c, int d, int e) {
        if (n < 1 || n > FED_AT_ONCE || !isByte(a) || !isByte(b) || !isByte(c) || !isByte(d) || !isByte(e)) {
            return BAD;
        }
        if (reader.size + n > TAPE_ROOM) {
            return FULL;
        }
        for (int i = 0; i < n; i++) {
            reader.append(i == 0 ? a : i == 1 ? b : i == 2 ? c : i == 3 ? d : e);
        }
        return reader.size;
    }

    public int text() {
        if (texts < 0 || texts >= lawBook.length) {
            return FULL;
        }
        int fault = reader.faultOf(lawBook[texts]);
        reader.size = 0;
        if (fault >= 0) {
            return -100 - fault;
        }
        texts++;
        return texts - 1;
    }

    public int force(int t) {
        if (t < 0 || t >= texts) {
            return BAD;
        }
        explored = false;
        int was = lake.law;
        lake.law = t;
        return was;
    }

    public int asks(int part, int a, int b, int c) {
        rules.learn(lawNow());
        if (part == MAY && lake.has(a) && lake.has(b) && isLanding(c)) {
            return rules.mayOf(a, b, c) ? 1 : 0;
        }
        if (part == ROW && isLanding(a) && isLanding(b) && a != b) {
            return rules.rowOf(a, b);
        }
        if (part == GAIN && lake.has(a) && b >= 0 && b <= MOST_HOURS) {
            return rules.gainOf(a, b);
        }
        return BAD;
    }

    // ---- people.

    public int person(int kind, int ways, int byWorth, int more) {
        boolean kindGood = kind >= 0 && kind < KINDS;
        boolean waysGood = ways >= 0 && ways / 10 <= ABOARD && ways % 10 < LANDINGS;
        if (!kindGood || !waysGood || byWorth < 0 || byWorth > 9999 || more < 0 || more >= MOST_PEOPLE) {
            return BAD;
        }
        if (lake.people >= MOST_PEOPLE) {
            return FULL;
        }
        if (ways / 10 == ABOARD && Integer.bitCount(lake.whoIsAt(ABOARD)) >= MOST_ABOARD) {
            return STATE;
        }
        explored = false;
        lake.add(kind, ways, byWorth, more);
        return lake.people - 1;
    }

    public int foe(int p, int q, int is) {
        if (!lake.has(p) || !lake.has(q) || p == q) {
            return NONE;
        }
        if (is != 0 && is != 1) {
            return BAD;
        }
        explored = false;
        return lake.setFoes(p, q, is);
    }

    public int told(int p, int what) {
        if (!lake.has(p)) {
            return NO_SUCH;
        }
        switch (what) {
            case 0:
                return lake.kind[p];
            case 1:
                return lake.place[p];
            case 2:
                return lake.to[p];
            case 3:
                return lake.by[p];
            case 4:
                return lake.worth[p];
            case 5:
                return lake.other[p];
            case 6:
                return lake.foes[p];
            default:
                return NO_WHAT;
        }
    }

    public int put(int p, int l) {
        if (!lake.has(p)) {
            return NO_SUCH;
        }
        if (l < 0 || l > ABOARD) {
            return NO_WHAT;
        }
        int others = lake.whoIsAt(ABOARD) & ~(1 << p);
        if (l == ABOARD && Integer.bitCount(others) >= MOST_ABOARD) {
            return STATE;
        }
        explored = false;
        int was = lake.place[p];
        lake.place[p] = l;
        return was;
    }

    public int may(int off, int on) {
        if (!lake.has(off) || !lake.has(on)) {
            return NO_SUCH;
        }
        rules.learn(lawNow());
        rules.look(lake.state());
        return rules.mayBe(off, on) ? 1 : 0;
    }

    public int alone() {
        rules.learn(lawNow());
        int bits = 0;
        for (int l = 0; l < LANDINGS; l++) {
            if (!rules.mayStand(lake.whoIsAt(l))) {
                bits |= 1 << l;
            }
        }
        return bits;
    }

    // ---- moves.

    public int move(int kind, int a, int b) {
        int bound = kind == ROW_MOVE ? LANDINGS - 1 : kind == SWAP_MOVE ? MOST_PEOPLE - 1 : MOST_WAIT;
        if (kind < ROW_MOVE || kind > WAIT_MOVE || a < 0 || a > bound || b < 0 || b >= MOST_PEOPLE) {
            return BAD;
        }
        if (trip.moves >= MOST_MOVES) {
            return FULL;
        }
        trip.add(kind, a, b);
        return trip.moves - 1;
    }

    public int clear() {
        int were = trip.moves;
        trip.moves = 0;
        return were;
    }

    public int judge() {
        rules.learn(lawNow());
        trip.follow(trip.moves);
        return trip.wrong;
    }

    public int run(int n, int what) {
        if (n < 0 || n > trip.moves) {
            return NO_SUCH;
        }
        if (what < 0 || what > 3) {
            return NO_WHAT;
        }
        rules.learn(lawNow());
        trip.follow(n);
        return what == 0 ? trip.hour : what == 1 ? rules.boat : what == 2 ? rules.there() : trip.gain;
    }

    public int where(int n, int p) {
        if (n < 0 || n > trip.moves || !lake.has(p)) {
            return NO_SUCH;
        }
        rules.learn(lawNow());
        trip.follow(n);
        return rules.placeIn(trip.state, p);
    }

    // ---- all that can be come to.

    public int all(int what) {
        if (what < BY_HOURS || what > BY_ROWINGS) {
            return BAD;
        }
        if (what != BY_HOURS) {
            return searchNow(lawNow(), what);
        }
        explore();
        return search.leastForAll();
    }

    public int soonest(int p) {
        if (!lake.has(p)) {
            return NO_SUCH;
        }
        explore();
        return search.least(1 << p);
    }

    public int never(int what) {
        if (what != 0 && what != 1) {
            return BAD;
        }
        explore();
        return what == 0 ? rules.mustCome() & ~search.everAtTo() : search.size;
    }

    public int best(int hour, int what) {
        if (hour < 0 || hour > MOST_HOURS || what != 0 && what != 1) {
            return BAD;
        }
        explore();
        search.findBest(hour);
        return what == 0 ? search.bestGain : search.bestHour;
    }

    // ---- bounds.

    public int bound() {
        rules.learn(lawNow());
        return rules.farthest();
    }

    public int gap() {
        explore();
        int hours = search.leastForAll();
        return hours < 0 ? -1 : hours - rules.farthest();
    }

    public int way(int u, int v) {
        if (!isLanding(u) || !isLanding(v)) {
            return NO_SUCH;
        }
        rules.learn(lawNow());
        rules.findPaths();
        return rules.pathOf(u, v);
    }

    // ---- what would help.

    public int help(int what) {
        if (what != 0 && what != 1) {
            return BAD;
        }
        if (lake.people >= MOST_PEOPLE) {
            return STATE;
        }
        explore();
        if (search.leastForAll() >= 0) {
            return -1;
        }
        for (int l = 0; l < LANDINGS; l++) {
            lake.add(PAID, 10 * l, 0, 0);
            int hours = searchNow(lawNow(), BY_HOURS);
            lake.people--;
            if (hours >= 0) {
                return what == 0 ? l : hours;
            }
        }
        return -1;
    }

    public int laws() {
        int bits = 0;
        for (int t = 0; t < texts && t < lawBook.length; t++) {
            if (searchNow(lawBook[t], BY_HOURS) >= 0) {
                bits |= 1 << t;
            }
        }
        return bits;
    }

    public int join(int u, int v) {
        if (!isLanding(u) || !isLanding(v) || u == v) {
            return NO_SUCH;
        }
        int were = lake.setHours(u, v, 1);
        int hours = searchNow(lawNow(), BY_HOURS);
        lake.setHours(u, v, were);
        return hours;
    }

    public int leave(int what) {
        if (what != 0 && what != 1) {
            return BAD;
        }
        explore();
        int who = -1;
        int fewest = -1;
        for (int p = 0; p < lake.people; p++) {
            int hours = search.least(rules.mustCome() & ~(1 << p));
            if (hours >= 0 && (fewest < 0 || hours < fewest)) {
                who = p;
                fewest = hours;
            }
        }
        return what == 0 ? who : fewest;
    }

    public int first() {
        explore();
        int hours = search.leastForAll();
        if (hours < 0) {
            return -1;
        }
        explored = false;
        int start = lake.state();
        for (int off = 0; off < lake.people; off++) {
            for (int on = 0; on < lake.people; on++) {
                rules.look(start);
                if (rules.mayBe(off, on) && staysAt(hours, rules.swapped(start, off, on))) {
                    return 10 * off + on;
                }
            }
        }
        return -1;
    }

    // ---- moves by lot.

    public int drawn(int seed, int n, int what) {
        if (seed < 0 || seed > MOST_SEED || n < 0 || n > MOST_DRAWN || what < 0 || what > 2) {
            return BAD;
        }
        rules.learn(lawNow());
        trip.draw(seed, n);
        return what == 0 ? rules.there() : what == 1 ? trip.hour : rules.boat;
    }

    public long chance(int p, int seed, int how, int part) {
        int seeds = how / 100;
        int n = how % 100;
        boolean howGood = how >= 0 && seeds >= 1 && seeds <= MOST_SEEDS && n <= MOST_DRAWN;
        if (!lake.has(p) || seed < 0 || seed > MOST_SEED || !howGood || part != 0 && part != 1) {
            return NO;
        }
        rules.learn(lawNow());
        int above = 0;
        for (int k = 0; k < seeds; k++) {
            trip.draw(seed + k, n);
            above += rules.there() >> p & 1;
        }
        int common = commonDivisor(above, seeds);
        return common < 1 ? NO : part == 0 ? above / common : seeds / common;
    }

    public int image() {
        kept.become(lake);
        hasImage = true;
        return lake.people;
    }

    public int back() {
        if (!hasImage) {
            return STATE;
        }
        explored = false;
        lake.become(kept);
        return lake.people;
    }

    // ---- the host.

    public int sheet(int s, int sort, int n) {
        if (!isSheet(s) || sort < MISSING || sort >= SORTS || sort != MISSING && n > SHEET_ROOM) {
            return BAD;
        }
        if (sort != MISSING && n < 0) {
            return BELOW_ZERO;
        }
        sheets[s].become(sort, n);
        return 1;
    }

    public int cell(int s, int i, int v) {
        if (!isSheet(s)) {
            return BAD;
        }
        if (sheets[s].sort == MISSING) {
            return NOTHING_THERE;
        }
        if (!sheets[s].has(i)) {
            return OUTSIDE;
        }
        sheets[s].write(i, v);
        return 1;
    }

    public int copy(int s, int i, int other, int j, int n) {
        if (!isSheet(s) || !isSheet(other)) {
            return BAD;
        }
        Sheet from = sheets[s];
        Sheet to = sheets[other];
        if (from.sort == MISSING || to.sort == MISSING) {
            return NOTHING_THERE;
        }
        if (from.sort != to.sort) {
            return OTHER_SORT;
        }
        if (!from.hasRun(i, n) || !to.hasRun(j, n)) {
            return OUTSIDE;
        }
        System.arraycopy(from.cells, i, to.cells, j, n);
        return n;
    }

    public int peopleBy(int s, int sort, int place, int n) {
        if (!isSheet(s) || sort < 0 || sort >= SORTS || n < 0 || n > MOST_PEOPLE) {
            return BAD;
        }
        Sheet row = sheets[s];
        if (row.sort == MISSING) {
            return NOTHING_THERE;
        }
        if (row.sort != sort) {
            return OTHER_SORT;
        }
        int came = 0;
        for (int k = 0; k < n; k++) {
            int i = place + 4 * k;
            if (!row.hasRun(i, 4)) {
                return OUTSIDE;
            }
            if (person(row.read(i), row.read(i + 1), row.read(i + 2), row.read(i + 3)) >= 0) {
                came++;
            }
        }
        return came;
    }

    public int taken(int i, int kind) {
        if (kind < 0 || kind > A_LANDING) {
            return BAD;
        }
        if (i < 0 || i >= LANDINGS + MOST_PEOPLE) {
            return OUTSIDE;
        }
        if (i < LANDINGS) {
            return kind == A_LANDING ? Integer.bitCount(lake.whoIsAt(i)) : OTHER_SORT;
        }
        int p = i - LANDINGS;
        if (!lake.has(p)) {
            return NOTHING_THERE;
        }
        return kind < KINDS && isA(lake.kind[p], kind) ? p : OTHER_SORT;
    }

    // ---- what several of these need.

    private Law lawNow() {
        return lake.law >= 0 && lake.law < lawBook.length ? lawBook[lake.law] : lawBook[0];
    }

    /** All STATES by hours, kept until something told changes or another search takes their room. */
    private void explore() {
        if (!explored) {
            rules.learn(lawNow());
            search.reach(lake.state(), BY_HOURS, WITH_ALL_STATES, MOST_HOURS);
            explored = true;
        }
    }

    private int searchNow(Law law, int measure) {
        explored = false;
        rules.learn(law);
        return search.reach(lake.state(), measure, rules.mustCome(), MOST_HOURS);
    }

    private boolean staysAt(int hours, int state) {
        return search.reach(state, BY_HOURS, rules.mustCome(), hours) == hours;
    }

    private static boolean isLanding(int l) {
        return l >= 0 && l < LANDINGS;
    }

    private static boolean isByte(int b) {
        return b >= 0 && b <= MOST_BYTE;
    }

    private static boolean isSheet(int s) {
        return s >= 0 && s < SHEETS;
    }

    private static boolean isA(int kind, int above) {
        int k = kind;
        for (int step = 0; step < KINDS && k >= 0 && k < KIND_ABOVE.length; step++) {
            if (k == above) {
                return true;
            }
            k = KIND_ABOVE[k];
        }
        return false;
    }

    private static int commonDivisor(int a, int b) {
        int large = b;
        int small = a;
        for (int turn = 0; turn < 64 && small != 0; turn++) {
            int rest = large % small;
            large = small;
            small = rest;
        }
        return large;
    }

    /** How all is told: what AN IMAGE keeps, and what never changes of PEOPLE. */
    private static final class Lake {
        static final int[] STEP = {4, 20, 100, 500, 2500, 12500};

        int boat;
        int people;
        int law;
        final int[] place = new int[MOST_PEOPLE];
        final int[] kind = new int[MOST_PEOPLE];
        final int[] to = new int[MOST_PEOPLE];
        final int[] by = new int[MOST_PEOPLE];
        final int[] worth = new int[MOST_PEOPLE];
        final int[] other = new int[MOST_PEOPLE];
        final int[] foes = new int[MOST_PEOPLE];
        final int[] hours = new int[LANDINGS * LANDINGS];

        Lake() {
            for (int u = 0; u < LANDINGS; u++) {
                for (int v = 0; v < LANDINGS; v++) {
                    hours[LANDINGS * u + v] = Math.abs(u - v);
                }
            }
        }

        void become(Lake from) {
            boat = from.boat;
            people = from.people;
            law = from.law;
            System.arraycopy(from.place, 0, place, 0, MOST_PEOPLE);
            System.arraycopy(from.kind, 0, kind, 0, MOST_PEOPLE);
            System.arraycopy(from.to, 0, to, 0, MOST_PEOPLE);
            System.arraycopy(from.by, 0, by, 0, MOST_PEOPLE);
            System.arraycopy(from.worth, 0, worth, 0, MOST_PEOPLE);
            System.arraycopy(from.other, 0, other, 0, MOST_PEOPLE);
            System.arraycopy(from.foes, 0, foes, 0, MOST_PEOPLE);
            System.arraycopy(from.hours, 0, hours, 0, LANDINGS * LANDINGS);
        }

        boolean has(int p) {
            return p >= 0 && p < people && p < MOST_PEOPLE;
        }

        void add(int newKind, int ways, int byWorth, int more) {
            int p = people;
            if (p < 0 || p >= MOST_PEOPLE) {
                return;
            }
            people++;
            kind[p] = newKind;
            place[p] = ways / 10;
            to[p] = ways % 10;
            by[p] = byWorth / 100;
            worth[p] = byWorth % 100;
            other[p] = more;
            foes[p] = 0;
        }

        int setHours(int u, int v, int h) {
            if (!isLanding(u) || !isLanding(v)) {
                return 0;
            }
            int were = hours[LANDINGS * u + v];
            hours[LANDINGS * u + v] = h;
            hours[LANDINGS * v + u] = h;
            return were;
        }

        int setFoes(int p, int q, int is) {
            if (!has(p) || !has(q)) {
                return 0;
            }
            int were = foes[p] >> q & 1;
            foes[p] = foes[p] & ~(1 << q) | is << q;
            foes[q] = foes[q] & ~(1 << p) | is << p;
            return were;
        }

        int whoIsAt(int l) {
            int bits = 0;
            for (int p = 0; p < people && p < MOST_PEOPLE; p++) {
                if (place[p] == l) {
                    bits |= 1 << p;
                }
            }
            return bits;
        }

        int whoIsA(int above) {
            int bits = 0;
            for (int p = 0; p < people && p < MOST_PEOPLE; p++) {
                if (isA(kind[p], above)) {
                    bits |= 1 << p;
                }
            }
            return bits;
        }

        /** Where all are, as one number: the boat's landing, and each one's place times STEP. */
        int state() {
            int state = boat;
            for (int p = 0; p < people && p < MOST_PEOPLE; p++) {
                state += place[p] * STEP[p];
            }
            return state;
        }
    }

    /** A TEXT: its three E behind one another, operands ahead of their operation. Below 0 are NAMES and operations. */
    private static final class Law {
        static final int LAST_NAME = -6;
        static final int OR = -10, AND = -11, NOT = -12, NEGATE = -13;
        static final int TIMES = -'*', PLUS = -'+', MINUS = -'-', LESS = -'<', EQUAL = -'=';

        private final int[] codes = new int[TAPE_ROOM];
        private final int[] ends = new int[PARTS];
        // 5 open brackets leave 5 half-read operations each, and 6 more numbers: 31 at most.
        private final int[] stack = new int[40];
        private int size;

        void begin() {
            size = 0;
        }

        void add(int code) {
            if (size >= 0 && size < codes.length) {
                codes[size] = code;
                size++;
            }
        }

        void end(int part) {
            if (part >= 0 && part < ends.length) {
                ends[part] = size;
            }
        }

        int value(int part, int[] names) {
            if (part < 0 || part >= ends.length) {
                return 0;
            }
            int top = -1;
            int from = part == 0 ? 0 : Math.max(0, ends[part - 1]);
            for (int i = from; i < ends[part] && i < codes.length; i++) {
                int code = codes[i];
                if (code >= LAST_NAME) {
                    top++;
                } else if (code != NOT && code != NEGATE) {
                    top--;
                }
                if (top < 0 || top + 1 >= stack.length) {
                    return 0;
                }
                stack[top] = code >= LAST_NAME ? operand(code, names) : result(code, stack[top], stack[top + 1]);
            }
            return stack[0];
        }

        private static int operand(int code, int[] names) {
            if (code >= 0) {
                return code;
            }
            return -1 - code < names.length ? names[-1 - code] : 0;
        }

        private static int result(int code, int a, int b) {
            switch (code) {
                case OR:
                    return a != 0 || b != 0 ? 1 : 0;
                case AND:
                    return a != 0 && b != 0 ? 1 : 0;
                case NOT:
                    return a == 0 ? 1 : 0;
                case LESS:
                    return a < b ? 1 : 0;
                case EQUAL:
                    return a == b ? 1 : 0;
                case PLUS:
                    return a + b;
                case MINUS:
                    return a - b;
                case TIMES:
                    return a * b;
                default:
                    return -a;
            }
        }
    }

    /** Reads a TEXT from THE TAPE into a Law: all TOKENS first; then each part of the grammar says whether it stands. */
    private static final class Reader {
        private static final String WORDS = "off  on   at   base hour by   may  row  gain or   and  not  ";
        private static final int WORD_ROOM = 5, NAMES = 6;
        private static final int MAY_WORD = 6, OR_WORD = 9, AND_WORD = 10, NOT_WORD = 11;
        // A TOKEN is a word's place in WORDS, a sign's byte, or NUMBER and the number.
        private static final int END = 300, WRONG = 301, NUMBER = 1000;
        private static final int MOST_OPEN = 5, MOST_DIGITS = 4;

        private final int[] tape = new int[TAPE_ROOM];
        int size;
        private final int[] tokens = new int[TAPE_ROOM + 1];
        private final int[] places = new int[TAPE_ROOM + 1];
        private int found;
        private int next;
        private int token;
        private int place;
        private Law law;
        private int open;

        Reader(Law law) {
            this.law = law;
        }

        void append(int b) {
            if (size >= 0 && size < tape.length) {
                tape[size] = b;
                size++;
            }
        }

        /** The place of the FAULT; -1: none. */
        int faultOf(Law into) {
            law = into;
            law.begin();
            open = 0;
            split();
            next = 0;
            step();
            for (int part = MAY; part <= GAIN; part++) {
                if (!standsPart(part)) {
                    return place;
                }
            }
            return token == END ? -1 : place;
        }

        private boolean standsPart(int part) {
            if (token != MAY_WORD + part) {
                return false;
            }
            step();
            if (!standsE() || token != ';') {
                return false;
            }
            law.end(part);
            step();
            return true;
        }

        private boolean standsE() {
            boolean good = standsAnd();
            for (int i = 0; i < TAPE_ROOM && good && token == OR_WORD; i++) {
                step();
                good = standsAnd();
                law.add(Law.OR);
            }
            return good;
        }

        private boolean standsAnd() {
            boolean good = standsNot();
            for (int i = 0; i < TAPE_ROOM && good && token == AND_WORD; i++) {
                step();
                good = standsNot();
                law.add(Law.AND);
            }
            return good;
        }

        private boolean standsNot() {
            if (token == NOT_WORD) {
                if (!opens() || !standsNot()) {
                    return false;
                }
                open--;
                law.add(Law.NOT);
                return true;
            }
            if (!standsSum()) {
                return false;
            }
            int sign = token;
            if (sign != '<' && sign != '=') {
                return true;
            }
            step();
            if (!standsSum()) {
                return false;
            }
            law.add(-sign);
            return true;
        }

        private boolean standsSum() {
            boolean good = standsTerm();
            for (int i = 0; i < TAPE_ROOM && good && (token == '+' || token == '-'); i++) {
                int sign = token;
                step();
                good = standsTerm();
                law.add(-sign);
            }
            return good;
        }

        private boolean standsTerm() {
            boolean good = standsOne();
            for (int i = 0; i < TAPE_ROOM && good && token == '*'; i++) {
                step();
                good = standsOne();
                law.add(Law.TIMES);
            }
            return good;
        }

        private boolean standsOne() {
            if (token == '-') {
                if (!opens() || !standsOne()) {
                    return false;
                }
                open--;
                law.add(Law.NEGATE);
                return true;
            }
            if (token == '(') {
                if (!opens() || !standsE() || token != ')') {
                    return false;
                }
                open--;
                step();
                return true;
            }
            if (token >= NAMES && token < NUMBER) {
                return false;
            }
            law.add(token >= NUMBER ? token - NUMBER : -1 - token);
            step();
            return true;
        }

        private boolean opens() {
            if (open >= MOST_OPEN) {
                return false;
            }
            open++;
            step();
            return true;
        }

        private void step() {
            if (next >= 0 && next < found && next < tokens.length) {
                token = tokens[next];
                place = places[next];
                next++;
            }
        }

        /** THE TAPE becomes TOKENS, each as long as can be, and END behind them. */
        private void split() {
            found = 0;
            int from = 0;
            while (from < size) {
                int end = endOf(from);
                if (byteAt(from) != 32 && byteAt(from) != 10) {
                    note(tokenFrom(from, end - from), from);
                }
                from = Math.max(end, from + 1);
            }
            note(END, size);
        }

        private void note(int what, int where) {
            if (found >= 0 && found < tokens.length) {
                tokens[found] = what;
                places[found] = where;
                found++;
            }
        }

        private int byteAt(int i) {
            return i >= 0 && i < size && i < tape.length ? tape[i] : -1;
        }

        private static boolean isLetter(int b) {
            return b >= 'a' && b <= 'z';
        }

        private static boolean isDigit(int b) {
            return b >= '0' && b <= '9';
        }

        private int endOf(int from) {
            boolean word = isLetter(byteAt(from));
            boolean number = isDigit(byteAt(from));
            int end = from + 1;
            while (end < size && (word && isLetter(byteAt(end)) || number && isDigit(byteAt(end)))) {
                end++;
            }
            return end;
        }

        private int tokenFrom(int from, int length) {
            int b = byteAt(from);
            if (isLetter(b)) {
                return wordFrom(from, length);
            }
            if (isDigit(b)) {
                return numberFrom(from, length);
            }
            boolean sign = b == '(' || b == ')' || b == ';' || b == '+' || b == '-' || b == '*' || b == '<' || b == '=';
            return sign ? b : WRONG;
        }

        private int numberFrom(int from, int length) {
            if (length > MOST_DIGITS) {
                return WRONG;
            }
            int number = 0;
            for (int i = 0; i < length; i++) {
                number = 10 * number + byteAt(from + i) - '0';
            }
            return NUMBER + number;
        }

        private int wordFrom(int from, int length) {
            for (int word = 0; word * WORD_ROOM < WORDS.length(); word++) {
                if (spells(word * WORD_ROOM, from, length)) {
                    return word;
                }
            }
            return WRONG;
        }

        private boolean spells(int at, int from, int length) {
            if (length >= WORD_ROOM || at < 0 || at + length >= WORDS.length() || WORDS.charAt(at + length) != ' ') {
                return false;
            }
            if (from < 0 || from + length > tape.length) {
                return false;
            }
            for (int i = 0; i < length; i++) {
                if (WORDS.charAt(at + i) != tape[from + i]) {
                    return false;
                }
            }
            return true;
        }
    }

    /** What a law says of the lake, as tables; and what may be in the state that was looked at last. */
    private static final class Rules {
        final Lake lake;
        private Law law;
        private final int[] names = new int[6];
        final int[] row = new int[LANDINGS * LANDINGS];
        private final int[] path = new int[LANDINGS * LANDINGS];
        private final int[] swapAt = new int[MOST_PEOPLE * MOST_PEOPLE];
        private int goats;
        private int children;
        private int paid;
        private int knitting;
        private int twins;
        int boat;
        private int aboard;
        private int here;
        int atTo;
        int swaps;
        final int[] off = new int[MOST_PEOPLE * MOST_PEOPLE];
        final int[] on = new int[MOST_PEOPLE * MOST_PEOPLE];

        Rules(Lake lake, Law law) {
            this.lake = lake;
            this.law = law;
        }

        /** Once ahead of each question: the law, the hours or the people may have changed. */
        void learn(Law newLaw) {
            law = newLaw;
            goats = lake.whoIsA(GOAT);
            children = lake.whoIsA(CHILD);
            paid = lake.whoIsA(PAID);
            knitting = lake.whoIsA(KNITTING);
            twins = lake.whoIsA(TWIN);
            for (int u = 0; u < LANDINGS; u++) {
                for (int v = 0; v < LANDINGS; v++) {
                    row[LANDINGS * u + v] = u == v ? 0 : rowOf(u, v);
                }
            }
            for (int p = 0; p < lake.people && p < MOST_PEOPLE; p++) {
                for (int q = 0; q < lake.people && q < MOST_PEOPLE; q++) {
                    swapAt[MOST_PEOPLE * p + q] = p == q ? 0 : landingsFor(p, q);
                }
            }
        }

        private int landingsFor(int p, int q) {
            int bits = 0;
            for (int l = 0; l < LANDINGS; l++) {
                if (mayOf(p, q, l)) {
                    bits |= 1 << l;
                }
            }
            return bits;
        }

        boolean mayOf(int p, int q, int l) {
            name(p, q, l, 0, 0, 0);
            return law.value(MAY, names) != 0;
        }

        int rowOf(int u, int v) {
            if (!isLanding(u) || !isLanding(v)) {
                return 1;
            }
            name(u, v, 0, lake.hours[LANDINGS * u + v], 0, 0);
            return Math.max(1, Math.min(LONGEST_ROW, law.value(ROW, names)));
        }

        int gainOf(int p, int hour) {
            if (!lake.has(p)) {
                return 0;
            }
            name(p, 0, lake.to[p], lake.worth[p], hour, lake.by[p]);
            return Math.max(0, Math.min(MOST_GAIN, law.value(GAIN, names)));
        }

        private void name(int offName, int onName, int atName, int base, int hour, int by) {
            names[0] = offName;
            names[1] = onName;
            names[2] = atName;
            names[3] = base;
            names[4] = hour;
            names[5] = by;
        }

        /** Those whose being at TO it takes that ALL are THERE. */
        int mustCome() {
            return (1 << lake.people) - 1 & ~paid;
        }

        int there() {
            return atTo | paid;
        }

        void look(int state) {
            boat = state & LANDINGS - 1;
            aboard = 0;
            here = 0;
            atTo = 0;
            int rest = state >> 2;
            for (int p = 0; p < lake.people && p < MOST_PEOPLE; p++) {
                int at = rest % PLACES;
                rest /= PLACES;
                if (at == ABOARD) {
                    aboard |= 1 << p;
                } else if (at == boat) {
                    here |= 1 << p;
                }
                if (at == lake.to[p]) {
                    atTo |= 1 << p;
                }
            }
        }

        boolean isAboard(int p) {
            return (aboard >> p & 1) != 0;
        }

        int placeIn(int state, int p) {
            if (!lake.has(p)) {
                return 0;
            }
            return state / Lake.STEP[p] % PLACES;
        }

        int swapped(int state, int p, int q) {
            if (!lake.has(p) || !lake.has(q)) {
                return state;
            }
            return state + (ABOARD - boat) * (Lake.STEP[q] - Lake.STEP[p]);
        }

        int rowed(int state, int l) {
            return state - boat + l;
        }

        /** Whether p OFF, q ON MAY BE in the state that was looked at. */
        boolean mayBe(int p, int q) {
            if (!lake.has(p) || !lake.has(q) || (aboard >> p & 1) == 0 || (here >> q & 1) == 0) {
                return false;
            }
            int stay = here & ~(1 << q);
            int crew = aboard & ~(1 << p);
            boolean lawful = (swapAt[MOST_PEOPLE * p + q] >> boat & 1) != 0;
            boolean leaves = (knitting >> p & 1) == 0
                && ((goats >> p & 1) == 0 || lake.to[p] == boat || stay != 0);
            boolean boards = (lake.foes[q] & crew) == 0
                && ((twins >> q & 1) == 0 || (crew >> lake.other[q] & 1) != 0);
            return lawful && leaves && boards && mayStand(stay | 1 << p);
        }

        /** Whether all of those who are at one landing may stand there. */
        boolean mayStand(int standing) {
            return (standing & children) == 0 || Integer.bitCount(standing) > 1;
        }

        /** All swaps that may be in the state that was looked at, by the one off, then the one on. */
        void listSwaps() {
            swaps = 0;
            for (int p = 0; p < lake.people; p++) {
                for (int q = 0; q < lake.people && swaps < off.length; q++) {
                    if (mayBe(p, q)) {
                        off[swaps] = p;
                        on[swaps] = q;
                        swaps++;
                    }
                }
            }
        }

        int longestRow() {
            int longest = 1;
            for (int i = 0; i < row.length; i++) {
                longest = Math.max(longest, row[i]);
            }
            return longest;
        }

        void findPaths() {
            System.arraycopy(row, 0, path, 0, row.length);
            for (int by = 0; by < LANDINGS; by++) {
                for (int u = 0; u < LANDINGS; u++) {
                    for (int v = 0; v < LANDINGS; v++) {
                        int round = path[LANDINGS * u + by] + path[LANDINGS * by + v];
                        path[LANDINGS * u + v] = Math.min(path[LANDINGS * u + v], round);
                    }
                }
            }
        }

        int pathOf(int u, int v) {
            return isLanding(u) && isLanding(v) ? path[LANDINGS * u + v] : 0;
        }

        int farthest() {
            findPaths();
            int most = 0;
            for (int p = 0; p < lake.people && p < MOST_PEOPLE; p++) {
                int at = lake.place[p] == ABOARD ? lake.boat : lake.place[p];
                boolean there = (paid >> p & 1) != 0 || lake.place[p] == lake.to[p];
                if (!there) {
                    most = Math.max(most, pathOf(lake.boat, at) + pathOf(at, lake.to[p]));
                }
            }
            return most;
        }
    }

    /** All states that can be come to, in the order of their hours (or swaps, or rowings). */
    private static final class Search {
        // A swap leaves as many at each place as there were: 6 people share 5 places in 6! / 2! ways at most, times 4
        // for the boat.
        private static final int MOST_STATES = 1440, STATE_NUMBERS = 62500, STATE_BITS = 16, STATE_MASK = 65535;

        private final Rules rules;
        private final int[] seen = new int[STATE_NUMBERS / 32 + 1];
        // A state's number, and above it who is at TO in it.
        private final int[] order = new int[MOST_STATES];
        private final int[] begin = new int[MOST_HOURS + 2];
        int size;
        private int costs;
        int bestGain;
        int bestHour;

        Search(Rules rules) {
            this.rules = rules;
        }

        /** The least cost of a state in which all of need are at TO, -1: none; what costs more than limit is not looked at. */
        int reach(int start, int measure, int need, int limit) {
            Arrays.fill(seen, 0);
            size = 0;
            costs = 0;
            int last = 0;
            int patience = measure == BY_HOURS ? rules.longestRow() : 1;
            for (int cost = 0; cost <= limit && cost <= MOST_HOURS && cost - last <= patience; cost++) {
                begin[cost] = size;
                if (cost == 0) {
                    add(start);
                } else {
                    comeTo(cost, measure);
                }
                for (int i = firstAt(cost); i < size && i < order.length; i++) {
                    rules.look(order[i]);
                    if ((rules.atTo & need) == need) {
                        return cost;
                    }
                    if (measure == BY_SWAPS) {
                        addRowed(order[i]);
                    } else {
                        addSwapped(order[i]);
                    }
                    order[i] |= rules.atTo << STATE_BITS;
                    last = cost;
                }
                costs = cost + 1;
                begin[costs] = size;
            }
            return -1;
        }

        /** Where those begin in the order that cost so much; they end where those begin that cost 1 more. */
        private int firstAt(int cost) {
            return cost >= 0 && cost < begin.length ? Math.max(0, Math.min(order.length, begin[cost])) : 0;
        }

        private void add(int state) {
            if (state < 0 || state >= STATE_NUMBERS || size < 0 || size >= order.length) {
                return;
            }
            int bit = 1 << (state & 31);
            if ((seen[state >> 5] & bit) == 0) {
                seen[state >> 5] |= bit;
                order[size] = state;
                size++;
            }
        }

        /** What one row from the state that was looked at leads to. */
        private void addRowed(int state) {
            for (int l = 0; l < LANDINGS; l++) {
                add(rules.rowed(state, l));
            }
        }

        /** What one swap in the state that was looked at leads to. */
        private void addSwapped(int state) {
            for (int p = 0; p < rules.lake.people; p++) {
                for (int q = 0; q < rules.lake.people && rules.isAboard(p); q++) {
                    if (rules.mayBe(p, q)) {
                        add(rules.swapped(state, p, q));
                    }
                }
            }
        }

        /** By what costs something, all that is new at just this cost. */
        private void comeTo(int cost, int measure) {
            if (measure == BY_SWAPS) {
                int end = firstAt(cost);
                for (int i = firstAt(cost - 1); i < end; i++) {
                    int state = order[i] & STATE_MASK;
                    rules.look(state);
                    addSwapped(state);
                }
                return;
            }
            for (int u = 0; u < LANDINGS; u++) {
                for (int v = 0; v < LANDINGS; v++) {
                    int price = measure == BY_HOURS ? rules.row[LANDINGS * u + v] : 1;
                    if (u != v && price >= 1 && price <= cost) {
                        addRowedFrom(u, v, cost - price);
                    }
                }
            }
        }

        private void addRowedFrom(int u, int v, int cost) {
            int end = firstAt(cost + 1);
            for (int i = firstAt(cost); i < end; i++) {
                int state = order[i] & STATE_MASK;
                if ((state & LANDINGS - 1) == u) {
                    add(state - u + v);
                }
            }
        }

        /** Of all that the last reach() came to: the least cost of a state in which all of need are at TO. */
        int least(int need) {
            for (int cost = 0; cost < costs; cost++) {
                int end = firstAt(cost + 1);
                for (int i = firstAt(cost); i < end; i++) {
                    if ((order[i] >> STATE_BITS & need) == need) {
                        return cost;
                    }
                }
            }
            return -1;
        }

        int leastForAll() {
            return least(rules.mustCome());
        }

        int everAtTo() {
            int bits = 0;
            for (int i = 0; i < size && i < order.length; i++) {
                bits |= order[i] >> STATE_BITS;
            }
            return bits;
        }

        void findBest(int hour) {
            bestGain = -1;
            bestHour = 0;
            for (int cost = 0; cost < costs && cost <= hour; cost++) {
                int most = mostGainAt(cost);
                if (most > bestGain) {
                    bestGain = most;
                    bestHour = cost;
                }
            }
        }

        private int mostGainAt(int cost) {
            int most = -1;
            int checked = -1;
            int end = firstAt(cost + 1);
            for (int i = firstAt(cost); i < end; i++) {
                int who = order[i] >> STATE_BITS;
                if (who != checked) {
                    most = Math.max(most, gainOfAll(who, cost));
                    checked = who;
                }
            }
            return most;
        }

        private int gainOfAll(int who, int hour) {
            int gain = 0;
            for (int p = 0; p < MOST_PEOPLE; p++) {
                if ((who >> p & 1) != 0) {
                    gain += rules.gainOf(p, hour);
                }
            }
            return gain;
        }
    }

    /** MOVES, and what comes of them or of moves by lot; behind it the rules have looked at the last state. */
    private static final class Trip {
        private static final long LOT_FACTOR = 48271L, LOT_MODULUS = 2147483647L;

        private final Rules rules;
        private final int[] kinds = new int[MOST_MOVES];
        private final int[] as = new int[MOST_MOVES];
        private final int[] bs = new int[MOST_MOVES];
        int moves;
        int state;
        int hour;
        int wrong;
        int gain;
        private int paidFor;

        Trip(Rules rules) {
            this.rules = rules;
        }

        void add(int kind, int a, int b) {
            if (moves >= 0 && moves < MOST_MOVES) {
                kinds[moves] = kind;
                as[moves] = a;
                bs[moves] = b;
                moves++;
            }
        }

        private void begin() {
            state = rules.lake.state();
            hour = 0;
            wrong = -1;
            gain = 0;
            paidFor = 0;
            rules.look(state);
        }

        void follow(int n) {
            begin();
            for (int k = 0; k < n && k < moves && k < MOST_MOVES; k++) {
                if (!done(kinds[k], as[k], bs[k]) && wrong < 0) {
                    wrong = k;
                }
                addGain();
            }
        }

        /** Whether the move MAY BE; if so, it is done. */
        private boolean done(int kind, int a, int b) {
            if (kind == WAIT_MOVE) {
                hour += a;
                return true;
            }
            if (kind == ROW_MOVE) {
                boolean may = a != rules.boat;
                row(a);
                return may;
            }
            boolean may = rules.mayBe(a, b);
            if (may) {
                swap(a, b);
            }
            return may;
        }

        private void row(int l) {
            if (isLanding(l) && isLanding(rules.boat)) {
                hour += rules.row[LANDINGS * rules.boat + l];
                state = rules.rowed(state, l);
                rules.look(state);
            }
        }

        private void swap(int p, int q) {
            state = rules.swapped(state, p, q);
            rules.look(state);
        }

        private void addGain() {
            for (int p = 0; p < MOST_PEOPLE; p++) {
                if (((rules.atTo & ~paidFor) >> p & 1) != 0) {
                    gain += rules.gainOf(p, hour);
                }
            }
            paidFor |= rules.atTo;
        }

        void draw(int seed, int n) {
            begin();
            long lot = seed + 1L;
            for (int k = 0; k < n; k++) {
                lot = lot * LOT_FACTOR % LOT_MODULUS;
                rules.listSwaps();
                int choices = Math.max(0, rules.swaps) + LANDINGS - 1;
                choose((int) (lot % choices));
            }
        }

        private void choose(int number) {
            if (number >= 0 && number < rules.swaps && number < rules.off.length) {
                swap(rules.off[number], rules.on[number]);
                return;
            }
            int l = number - rules.swaps;
            row(l < rules.boat ? l : l + 1);
        }
    }

    /** A row of numbers of a sort, or missing. */
    private static final class Sheet {
        int sort = MISSING;
        private int size;
        final int[] cells = new int[SHEET_ROOM];

        void become(int newSort, int newSize) {
            sort = newSort;
            size = newSort == MISSING ? 0 : newSize;
            Arrays.fill(cells, 0);
        }

        boolean has(int i) {
            return i >= 0 && i < size && i < cells.length;
        }

        boolean hasRun(int i, int n) {
            return i >= 0 && n >= 0 && i <= size && n <= size - i;
        }

        int read(int i) {
            return has(i) ? cells[i] : 0;
        }

        void write(int i, int v) {
            if (has(i)) {
                cells[i] = sort == 0 ? (byte) v : sort == 1 ? (short) v : v;
            }
        }
    }
}
