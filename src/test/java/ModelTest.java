import java.util.ArrayList;
import java.util.Arrays;
import java.util.HashMap;
import java.util.List;
import java.util.Map;
import java.util.PriorityQueue;
import java.util.Random;

/**
 * Runs of calls on OneForOne and on a plain second telling of the document (Model), which must answer alike: random ones,
 * and each call with each mix of numbers at, just beside and far from its bounds.
 * Arguments: how many random runs (400), the first seed (1).
 */
public final class ModelTest {
    public static void main(String[] args) {
        int runs = args.length > 0 ? Integer.parseInt(args[0]) : 400;
        int first = args.length > 1 ? Integer.parseInt(args[1]) : 1;
        long calls = 0;
        int wrong = 0;
        for (int seed = first; seed < first + runs; seed++) {
            Run run = new Run(seed);
            calls += run.go();
            if (run.fault != null) {
                wrong++;
                System.out.println("seed " + seed + ": " + run.fault);
                if (wrong > 5) {
                    break;
                }
            }
        }
        System.out.println(runs + " runs, " + calls + " calls, " + wrong + " wrong");
        Edges edges = new Edges();
        edges.go();
        System.out.println(edges.calls + " calls at the edges, " + edges.wrong + " wrong");
        wrong += edges.wrong;
        if (wrong > 0) {
            System.exit(1);
        }
    }

    /** One run: a new object, a new model, random calls. */
    static final class Run {
        // What an object answers behind its 512th call is free.
        static final int MOST_CALLS = 512;

        final Random random;
        final OneForOne x = new OneForOne();
        final Model m = new Model();
        final List<String> trace = new ArrayList<>();
        final int heavy;
        String fault;

        Run(int seed) {
            random = new Random(seed * 7919L + 13);
            heavy = random.nextInt(3);
        }

        int go() {
            int n = 60 + random.nextInt(390);
            if (below(4) != 0) {
                scene();
            }
            if (below(3) == 0) {
                sheets();
            }
            for (int i = 0; i < n && trace.size() < MOST_CALLS && fault == null; i++) {
                step();
            }
            return trace.size();
        }

        int below(int n) {
            return random.nextInt(n);
        }

        /** Mostly low .. high, at times around or far outside. */
        int odd(int low, int high) {
            int r = below(40);
            if (r == 0) {
                return low - 1;
            }
            if (r == 1) {
                return high + 1;
            }
            if (r == 2) {
                int[] far = {Integer.MIN_VALUE, Integer.MAX_VALUE, -1, -100, 1000000, Integer.MAX_VALUE - 3};
                return far[below(far.length)];
            }
            return low + below(high - low + 1);
        }

        void same(String call, long got, long want) {
            trace.add(call + " = " + got);
            if (got != want && fault == null) {
                fault = call + " answered " + got + ", the model says " + want + "\n    " + String.join("\n    ", trace);
            }
        }

        /** Some aboard, and so many PAID that ALL may come to be THERE. */
        void scene() {
            int all = below(6) == 0 ? 6 : 2 + below(4);
            int aboard = Math.min(all - 1, below(3) == 0 ? 2 : below(8) == 0 ? 3 : 1);
            for (int p = 0; p < all; p++) {
                int where = p < aboard ? 4 : below(4);
                int kind = below(all) < aboard + 1 || p >= all - aboard ? 3 : below(3) == 0 ? below(6) : 0;
                person(kind, 10 * where + below(4), 100 * below(14) + below(100), below(6));
            }
            for (int k = below(3); k > 0; k--) {
                foe(below(all), below(all), 1);
            }
        }

        void sheets() {
            for (int s = 0; s < 4; s++) {
                int sort = below(3);
                same("sheet(" + s + ", " + sort + ", 40)", x.sheet(s, sort, 40), m.sheet(s, sort, 40));
                for (int i = 0; i < 12; i++) {
                    int v = i % 4 == 0 ? below(6) : i % 4 == 1 ? 10 * below(5) + below(4) : i % 4 == 2 ? below(400) : below(6);
                    same("cell(" + s + ", " + i + ", " + v + ")", x.cell(s, i, v), m.cell(s, i, v));
                }
            }
        }

        void step() {
            int r = below(100);
            if (r < 3 || r < 14 && heavy == 0) {
                grow();
            } else if (r < 14) {
                states();
            } else if (r < 18 || r < 30 && heavy == 0) {
                change();
            } else if (r < 30) {
                states();
            } else if (r < 38) {
                lawCalls();
            } else if (r < 50) {
                askSmall();
            } else if (r < 64) {
                moves();
            } else if (r < 72) {
                lots();
            } else if (r < 85) {
                host();
            } else {
                states();
            }
        }

        void grow() {
            if (below(3) != 0 && m.people.size() > 3) {
                return;
            }
            int kind = odd(0, 5);
            int ways = below(3) == 0 ? odd(0, 43) : 10 * (below(2) == 0 ? 4 : below(4)) + below(4);
            int byWorth = below(2) == 0 ? odd(0, 9999) : 100 * below(12) + below(100);
            int more = odd(0, 5);
            person(kind, ways, byWorth, more);
        }

        void person(int kind, int ways, int byWorth, int more) {
            same("person(" + kind + ", " + ways + ", " + byWorth + ", " + more + ")",
                x.person(kind, ways, byWorth, more), m.person(kind, ways, byWorth, more));
        }

        void foe(int p, int q, int is) {
            same("foe(" + p + ", " + q + ", " + is + ")", x.foe(p, q, is), m.foe(p, q, is));
        }

        void change() {
            int n = Math.max(1, m.people.size()) - 1;
            switch (below(7)) {
                case 0: {
                    int u = odd(0, 3), v = odd(0, 3), h = odd(1, 9);
                    same("far(" + u + ", " + v + ", " + h + ")", x.far(u, v, h), m.far(u, v, h));
                    break;
                }
                case 1: {
                    int l = odd(0, 3);
                    same("moor(" + l + ")", x.moor(l), m.moor(l));
                    break;
                }
                case 2: {
                    foe(odd(0, n), odd(0, n), odd(0, 1));
                    break;
                }
                case 3:
                case 4: {
                    int p = odd(0, n), l = odd(0, 4);
                    same("put(" + p + ", " + l + ")", x.put(p, l), m.put(p, l));
                    break;
                }
                case 5: {
                    int t = odd(0, Math.max(0, m.texts.size() - 1));
                    same("force(" + t + ")", x.force(t), m.force(t));
                    break;
                }
                default:
                    if (below(3) == 0) {
                        same("image()", x.image(), m.image());
                    } else {
                        same("back()", x.back(), m.back());
                    }
            }
        }

        void lawCalls() {
            int r = below(10);
            if (r == 0) {
                int n = odd(1, 5), a = odd(0, 255), b = odd(0, 255), c = odd(0, 255), d = odd(0, 255), e = odd(0, 255);
                same("feed(" + n + ", " + a + ", " + b + ", " + c + ", " + d + ", " + e + ")",
                    x.feed(n, a, b, c, d, e), m.feed(n, a, b, c, d, e));
            } else if (r < 6) {
                feedText(new TextMaker(random).text());
            } else if (r == 6) {
                same("text()", x.text(), m.text());
            } else {
                int part = odd(0, 2);
                int a = odd(0, 4), b = part == 2 ? odd(0, 400) : odd(0, 4), c = odd(0, 3);
                same("asks(" + part + ", " + a + ", " + b + ", " + c + ")", x.asks(part, a, b, c), m.asks(part, a, b, c));
            }
        }

        void feedText(String text) {
            for (int i = 0; i < text.length() && trace.size() < MOST_CALLS - 1; i += 5) {
                int[] b = new int[5];
                int n = Math.min(5, text.length() - i);
                for (int k = 0; k < n; k++) {
                    b[k] = text.charAt(i + k);
                }
                same("feed(" + n + ", " + b[0] + ", " + b[1] + ", " + b[2] + ", " + b[3] + ", " + b[4] + ")",
                    x.feed(n, b[0], b[1], b[2], b[3], b[4]), m.feed(n, b[0], b[1], b[2], b[3], b[4]));
            }
            same("text() of [" + text.replace('\n', '~') + "]", x.text(), m.text());
        }

        void askSmall() {
            int n = Math.max(1, m.people.size()) - 1;
            switch (below(6)) {
                case 0: {
                    int what = odd(0, 6);
                    same("count(" + what + ")", x.count(what), m.count(what));
                    break;
                }
                case 1: {
                    int p = odd(0, n), what = odd(0, 6);
                    same("told(" + p + ", " + what + ")", x.told(p, what), m.told(p, what));
                    break;
                }
                case 2: {
                    int off = below(2) == 0 ? odd(0, n) : someoneAt(4), on = below(2) == 0 ? odd(0, n) : someoneAt(m.boat);
                    same("may(" + off + ", " + on + ")", x.may(off, on), m.may(off, on));
                    break;
                }
                case 3:
                    same("alone()", x.alone(), m.alone());
                    break;
                case 4:
                    same("bound()", x.bound(), m.bound());
                    break;
                default: {
                    int u = odd(0, 3), v = odd(0, 3);
                    same("way(" + u + ", " + v + ")", x.way(u, v), m.way(u, v));
                }
            }
        }

        int someoneAt(int place) {
            return someoneAt(place, m.spot());
        }

        int someoneAt(int place, List<Integer> spot) {
            int from = below(6);
            for (int k = 0; k < m.people.size(); k++) {
                int p = (from + k) % m.people.size();
                if (spot.get(p) == place) {
                    return p;
                }
            }
            return 0;
        }

        void moves() {
            int r = below(12);
            int count = m.moves.size();
            if (r < 5) {
                int kind = below(4) == 0 ? odd(0, 2) : below(2);
                int a = kind == 2 ? odd(0, 99) : odd(0, kind == 0 ? 3 : 5), b = odd(0, 5);
                if (kind == 1 && below(4) != 0) {
                    Model.Trip t = m.new Trip(count);
                    a = someoneAt(4, t.spot);
                    b = someoneAt(t.spot.get(m.people.size()), t.spot);
                }
                same("move(" + kind + ", " + a + ", " + b + ")", x.move(kind, a, b), m.move(kind, a, b));
            } else if (r == 5 && below(4) == 0) {
                same("clear()", x.clear(), m.clear());
            } else if (r < 8) {
                same("judge()", x.judge(), m.judge());
            } else if (r < 11) {
                int n = odd(0, count), what = odd(0, 3);
                same("run(" + n + ", " + what + ")", x.run(n, what), m.run(n, what));
            } else {
                int n = odd(0, count), p = odd(0, Math.max(1, m.people.size()) - 1);
                same("where(" + n + ", " + p + ")", x.where(n, p), m.where(n, p));
            }
        }

        void lots() {
            int seed = odd(0, 99999);
            if (below(2) == 0) {
                int n = odd(0, 40), what = odd(0, 2);
                same("drawn(" + seed + ", " + n + ", " + what + ")", x.drawn(seed, n, what), m.drawn(seed, n, what));
            } else {
                int p = odd(0, Math.max(1, m.people.size()) - 1), part = odd(0, 1);
                int how = below(10) == 0 ? odd(0, 2100) : 100 * odd(1, 20) + odd(0, 40);
                same("chance(" + p + ", " + seed + ", " + how + ", " + part + ")",
                    x.chance(p, seed, how, part), m.chance(p, seed, how, part));
            }
        }

        void host() {
            switch (below(5)) {
                case 0: {
                    int s = odd(0, 3), sort = below(3) == 0 ? odd(-1, 2) : odd(0, 2), n = odd(0, 40);
                    same("sheet(" + s + ", " + sort + ", " + n + ")", x.sheet(s, sort, n), m.sheet(s, sort, n));
                    break;
                }
                case 1: {
                    int s = odd(0, 3), i = odd(0, 39);
                    int v = below(3) == 0 ? random.nextInt() : below(60);
                    same("cell(" + s + ", " + i + ", " + v + ")", x.cell(s, i, v), m.cell(s, i, v));
                    break;
                }
                case 2: {
                    int s = odd(0, 3), o = below(3) == 0 ? s : odd(0, 3), i = odd(0, 30), j = odd(0, 30), n = odd(0, 20);
                    same("copy(" + s + ", " + i + ", " + o + ", " + j + ", " + n + ")", x.copy(s, i, o, j, n), m.copy(s, i, o, j, n));
                    break;
                }
                case 3: {
                    int s = odd(0, 3), sort = below(2) == 0 ? odd(0, 2) : s >= 0 && s < 4 ? m.sorts[s] : 0;
                    int place = below(2) == 0 ? 4 * below(4) : odd(0, 36), n = below(3) == 0 ? odd(0, 6) : below(2);
                    same("peopleBy(" + s + ", " + sort + ", " + place + ", " + n + ")",
                        x.peopleBy(s, sort, place, n), m.peopleBy(s, sort, place, n));
                    break;
                }
                default: {
                    int i = odd(0, 9), kind = odd(0, 6);
                    same("taken(" + i + ", " + kind + ")", x.taken(i, kind), m.taken(i, kind));
                }
            }
        }

        void states() {
            int what = odd(0, 1);
            switch (below(11)) {
                case 0:
                case 1: {
                    int which = odd(0, 2);
                    same("all(" + which + ")", x.all(which), m.all(which));
                    break;
                }
                case 2: {
                    int p = odd(0, Math.max(1, m.people.size()) - 1);
                    same("soonest(" + p + ")", x.soonest(p), m.soonest(p));
                    break;
                }
                case 3:
                    same("never(" + what + ")", x.never(what), m.never(what));
                    break;
                case 4: {
                    int hour = below(2) == 0 ? odd(0, 400) : below(12);
                    same("best(" + hour + ", " + what + ")", x.best(hour, what), m.best(hour, what));
                    break;
                }
                case 5:
                    same("gap()", x.gap(), m.gap());
                    break;
                case 6:
                    same("help(" + what + ")", x.help(what), m.help(what));
                    break;
                case 7:
                    same("laws()", x.laws(), m.laws());
                    break;
                case 8: {
                    int u = odd(0, 3), v = odd(0, 3);
                    same("join(" + u + ", " + v + ")", x.join(u, v), m.join(u, v));
                    break;
                }
                case 9:
                    same("leave(" + what + ")", x.leave(what), m.leave(what));
                    break;
                default:
                    same("first()", x.first(), m.first());
            }
        }
    }

    /** Each call with each mix of numbers at, just beside and far from its bounds, in three lakes. */
    static final class Edges {
        static final int LOW = Integer.MIN_VALUE, HIGH = Integer.MAX_VALUE;
        // What remains of 512 calls behind those that set a scene.
        static final int CALLS_A_SCENE = 200;
        static final int[] LANDING = {LOW, -1, 0, 1, 3, 4, HIGH};
        static final int[] PERSON = {LOW, -1, 0, 1, 2, 5, 6, HIGH};
        static final int[] WHAT = {LOW, -1, 0, 1, 2, 3, 4, 5, 6, 7, HIGH};
        static final int[] SHEET = {LOW, -1, 0, 1, 2, 3, 4, HIGH};
        static final int[] SORT = {LOW, -2, -1, 0, 1, 2, 3, HIGH};
        static final int[] CELL = {LOW, -1, 0, 1, 8, 9, 39, 40, 41, HIGH - 3, HIGH};
        static final int[] SEED = {LOW, -1, 0, 99999, 100000, HIGH};
        static final int[] BYTE = {-1, 0, 255, 256};

        OneForOne x;
        Model m;
        int made;
        int scene;
        int calls;
        int wrong;

        void go() {
            for (scene = 0; scene < 3; scene++) {
                lake();
                people();
                movesAndStates();
                lots();
                host();
            }
        }

        /** 0: nothing told; 1: a ferry that brings ALL; 2: six people, three ABOARD, all rows full. */
        void set() {
            x = new OneForOne();
            m = new Model();
            made = 0;
            int[][] ferry = {{3, 40, 0, 0}, {0, 2, 530, 0}, {2, 20, 450, 0}, {3, 21, 9999, 1}};
            int[][] full = {{0, 43, 120, 0}, {3, 41, 330, 0}, {4, 40, 0, 0}, {1, 2, 415, 0}, {2, 13, 540, 0}, {5, 11, 277, 1}};
            for (int[] p : scene == 0 ? new int[0][] : scene == 1 ? ferry : full) {
                both("person", p);
            }
            if (scene > 0) {
                int[][] rows = {{0, 0, 40}, {1, 0, 9}, {2, 2, 9}, {3, scene == 1 ? -1 : 1, 40}};
                for (int[] row : rows) {
                    both("sheet", row);
                }
                both("cell", 0, 1, 12);
                both("cell", 0, 5, 300);
                both("cell", 2, 2, 777);
                both("image");
                both("move", 0, 2, 0);
                both("move", 1, 0, 2);
            }
            if (scene == 2) {
                for (int k = 0; k < 14; k++) {
                    both("move", k % 3, k % 4, 0);
                }
                for (int t = 0; t < 5; t++) {
                    text("may not (off=" + t + ");row base+" + t + ";gain by-hour;");
                }
                text("may 1 ; row (((((( ;");
                both("force", 1);
                both("foe", 3, 4, 1);
            }
        }

        void text(String text) {
            for (int i = 0; i < text.length(); i += 5) {
                int n = Math.min(5, text.length() - i);
                int[] b = new int[6];
                b[0] = n;
                for (int k = 0; k < n; k++) {
                    b[k + 1] = text.charAt(i + k);
                }
                both("feed", b);
            }
            if (m.texts.size() < 6) {
                both("text");
            }
        }

        void lake() {
            mix("far", LANDING, LANDING, new int[] {LOW, -1, 0, 1, 9, 10, HIGH});
            mix("moor", LANDING);
            mix("count", WHAT);
            mix("feed", new int[] {LOW, -1, 0, 1, 2, 5, 6, HIGH}, BYTE, BYTE, BYTE, BYTE, BYTE);
            mix("text");
            mix("force", PERSON);
            mix("asks", new int[] {LOW, -1, 0, 1, 2, 3, HIGH}, PERSON, new int[] {LOW, -1, 0, 1, 3, 4, 5, 6, 400, 401, HIGH}, LANDING);
        }

        void people() {
            mix("person", PERSON, new int[] {LOW, -1, 0, 3, 4, 10, 33, 39, 40, 43, 44, 50, HIGH},
                new int[] {LOW, -1, 0, 100, 9999, 10000, HIGH}, PERSON);
            mix("foe", PERSON, PERSON, new int[] {LOW, -1, 0, 1, 2, HIGH});
            mix("told", PERSON, WHAT);
            mix("put", PERSON, new int[] {LOW, -1, 0, 3, 4, 5, HIGH});
            mix("may", PERSON, PERSON);
            mix("alone");
        }

        void movesAndStates() {
            mix("move", new int[] {LOW, -1, 0, 1, 2, 3, HIGH}, new int[] {LOW, -1, 0, 3, 4, 5, 6, 99, 100, HIGH}, PERSON);
            mix("judge");
            mix("run", new int[] {LOW, -1, 0, 1, 2, 3, 15, 16, 17, HIGH}, WHAT);
            mix("where", new int[] {LOW, -1, 0, 1, 2, 3, 15, 16, 17, HIGH}, PERSON);
            mix("clear");
            mix("all", WHAT);
            mix("soonest", PERSON);
            mix("never", WHAT);
            mix("best", new int[] {LOW, -1, 0, 1, 4, 400, 401, HIGH}, new int[] {LOW, -1, 0, 1, 2, HIGH});
            mix("bound");
            mix("gap");
            mix("way", LANDING, LANDING);
            mix("help", WHAT);
            mix("laws");
            mix("join", LANDING, LANDING);
            mix("leave", WHAT);
            mix("first");
        }

        void lots() {
            mix("drawn", SEED, new int[] {LOW, -1, 0, 1, 40, 41, HIGH}, new int[] {LOW, -1, 0, 1, 2, 3, HIGH});
            mix("chance", PERSON, SEED, new int[] {LOW, -101, -1, 0, 40, 99, 100, 140, 141, 199, 2000, 2040, 2041, 2100, HIGH},
                new int[] {LOW, -1, 0, 1, 2, HIGH});
            mix("image");
            mix("back");
        }

        void host() {
            mix("sheet", SHEET, SORT, new int[] {LOW, -1, 0, 1, 40, 41, HIGH});
            mix("cell", SHEET, CELL, new int[] {LOW, -129, -1, 0, 127, 128, 255, 256, 32767, 32768, 65535, 65536, HIGH});
            mix("copy", SHEET, CELL, SHEET, CELL, new int[] {LOW, -1, 0, 1, 2, 9, 39, 40, 41, HIGH});
            mix("peopleBy", SHEET, SORT, new int[] {LOW, -1, 0, 1, 4, 5, 6, 36, 37, 40, 41, HIGH - 3, HIGH}, PERSON);
            mix("taken", new int[] {LOW, -1, 0, 3, 4, 5, 7, 9, 10, HIGH}, WHAT);
        }

        /** All mixes of the numbers of each place. */
        void mix(String name, int[]... choices) {
            set();
            int all = 1;
            for (int[] choice : choices) {
                all *= choice.length;
            }
            int setting = made;
            for (int k = 0; k < all; k++) {
                if (made - setting >= CALLS_A_SCENE) {
                    set();
                }
                int[] numbers = new int[choices.length];
                int rest = k;
                for (int i = 0; i < choices.length; i++) {
                    numbers[i] = choices[i][rest % choices[i].length];
                    rest /= choices[i].length;
                }
                both(name, numbers);
                // What a call changed is seen by those behind it.
                if (k % 5 == 0) {
                    both("count", k / 5 % 7);
                    both("told", k / 5 % 6, k / 30 % 7);
                }
            }
        }

        void both(String name, int... numbers) {
            calls++;
            made++;
            Class<?>[] types = new Class<?>[numbers.length];
            Arrays.fill(types, int.class);
            Object[] given = new Object[numbers.length];
            for (int i = 0; i < given.length; i++) {
                given[i] = numbers[i];
            }
            Object got;
            Object want;
            try {
                got = OneForOne.class.getMethod(name, types).invoke(x, given);
                want = name.equals("feed") ? (Object) m.feed(numbers[0], Arrays.copyOfRange(numbers, 1, 6))
                    : Model.class.getDeclaredMethod(name, types).invoke(m, given);
            } catch (ReflectiveOperationException e) {
                got = "threw " + e.getCause();
                want = "an answer";
            }
            if (!got.equals(want)) {
                wrong++;
                if (wrong < 20) {
                    System.out.println("lake " + scene + ": " + name + Arrays.toString(numbers) + " answered " + got
                        + ", the model says " + want);
                }
            }
        }
    }

    /** Texts by the grammar, some of them spoilt. */
    static final class TextMaker {
        final Random random;

        TextMaker(Random random) {
            this.random = random;
        }

        int below(int n) {
            return random.nextInt(n);
        }

        String text() {
            String may = below(3) == 0 ? "1" : e(below(4));
            String row = below(2) == 0 ? "base" : below(3) == 0 ? "base * " + below(60) : e(below(4));
            String gain = below(2) == 0 ? "base * (hour < by + 1)" : e(below(4));
            String text = "may " + may + " ;" + gap() + "row " + row + gap() + ";" + gap() + "gain " + gain + " ;" + gap();
            return below(3) == 0 ? spoilt(text) : text;
        }

        String gap() {
            String[] gaps = {"", " ", "\n", "  ", " \n"};
            return gaps[below(gaps.length)];
        }

        String e(int depth) {
            switch (below(depth <= 0 ? 2 : 13)) {
                case 0:
                    return "" + below(below(2) == 0 ? 10 : 10000);
                case 1: {
                    String[] names = {"off", "on", "at", "base", "hour", "by"};
                    return names[below(6)];
                }
                case 2:
                    return e(depth - 1) + gap() + "+" + gap() + e(depth - 1);
                case 3:
                    return e(depth - 1) + gap() + "-" + gap() + e(depth - 1);
                case 4:
                    return e(depth - 1) + gap() + "*" + gap() + e(depth - 1);
                case 5:
                    return e(depth - 1) + gap() + "<" + gap() + e(depth - 1);
                case 6:
                    return e(depth - 1) + gap() + "=" + gap() + e(depth - 1);
                case 7:
                    return e(depth - 1) + " or " + e(depth - 1);
                case 8:
                    return e(depth - 1) + " and " + e(depth - 1);
                case 9:
                    return "not " + e(depth - 1);
                case 10:
                    return "-" + gap() + e(depth - 1);
                default:
                    return "(" + gap() + e(depth - 1) + gap() + ")";
            }
        }

        String spoilt(String text) {
            StringBuilder b = new StringBuilder(text);
            for (int k = 1 + below(2); k > 0 && b.length() > 0; k--) {
                int at = below(b.length());
                switch (below(5)) {
                    case 0:
                        b.deleteCharAt(at);
                        break;
                    case 1:
                        b.setLength(at);
                        break;
                    case 2: {
                        String[] parts = {"(", ")", "not ", "-", ";", " 12345 ", "x", "#", "<", " or ", "\t", "((((((",
                            "- - - - - -", "not not not not not ", "A", "\u00e9", "00001", "0001"};
                        b.insert(at, parts[below(parts.length)]);
                        break;
                    }
                    case 3:
                        b.setCharAt(at, (char) below(256));
                        break;
                    default:
                        b.append(" ;");
                }
            }
            return b.toString();
        }
    }

    /** The document told a second time, without any care for room or speed. */
    static final class Model {
        interface Expression {
            int value(Map<String, Integer> names);
        }

        static class Fault extends RuntimeException {
            final int place;

            Fault(int place) {
                this.place = place;
            }
        }

        record Token(String text, int place, char sort) {
        }

        record Text(Expression may, Expression row, Expression gain) {
        }

        static final class Someone implements Cloneable {
            int kind, place, to, by, worth, other;
            boolean[] foe = new boolean[6];

            Someone copy() {
                Someone s = new Someone();
                s.kind = kind;
                s.place = place;
                s.to = to;
                s.by = by;
                s.worth = worth;
                s.other = other;
                s.foe = foe.clone();
                return s;
            }

            boolean is(int k) {
                return switch (k) {
                    case 0 -> true;
                    case 3 -> kind == 3 || kind == 4;
                    case 2 -> kind == 2 || kind == 5;
                    default -> kind == k;
                };
            }
        }

        int boat;
        int law;
        List<Someone> people = new ArrayList<>();
        int[][] hours = new int[4][4];
        List<Text> texts = new ArrayList<>();
        List<int[]> moves = new ArrayList<>();
        StringBuilder tape = new StringBuilder();
        List<Someone> keptPeople;
        int keptBoat, keptLaw;
        int[][] keptHours;
        int[] sorts = {-1, -1, -1, -1};
        int[][] rows = new int[4][];

        Model() {
            for (int u = 0; u < 4; u++) {
                for (int v = 0; v < 4; v++) {
                    hours[u][v] = Math.abs(u - v);
                }
            }
            texts.add(read("may 1 ; row base ; gain base * (hour < by + 1) ;"));
        }

        // texts

        static List<Token> tokens(String text) {
            List<Token> all = new ArrayList<>();
            int i = 0;
            while (i < text.length()) {
                char c = text.charAt(i);
                int j = i + 1;
                if (c == ' ' || c == '\n') {
                    i++;
                    continue;
                }
                if (c >= 'a' && c <= 'z') {
                    while (j < text.length() && text.charAt(j) >= 'a' && text.charAt(j) <= 'z') {
                        j++;
                    }
                    String word = text.substring(i, j);
                    boolean name = List.of("off", "on", "at", "base", "hour", "by").contains(word);
                    boolean key = List.of("may", "row", "gain", "or", "and", "not").contains(word);
                    all.add(new Token(word, i, name ? 'n' : key ? 'k' : '?'));
                } else if (c >= '0' && c <= '9') {
                    while (j < text.length() && text.charAt(j) >= '0' && text.charAt(j) <= '9') {
                        j++;
                    }
                    all.add(new Token(text.substring(i, j), i, j - i > 4 ? '?' : '0'));
                } else {
                    all.add(new Token("" + c, i, "();+-*<=".indexOf(c) >= 0 ? 's' : '?'));
                }
                i = j;
            }
            all.add(new Token("", text.length(), 'e'));
            return all;
        }

        static Text read(String text) {
            Grammar g = new Grammar(tokens(text));
            Expression[] parts = new Expression[3];
            String[] keys = {"may", "row", "gain"};
            for (int k = 0; k < 3; k++) {
                g.want(keys[k]);
                parts[k] = g.or();
                g.want(";");
            }
            if (g.now().sort != 'e') {
                throw new Fault(g.now().place);
            }
            return new Text(parts[0], parts[1], parts[2]);
        }

        static final class Grammar {
            final List<Token> tokens;
            int i;
            int open;

            Grammar(List<Token> tokens) {
                this.tokens = tokens;
            }

            Token now() {
                return tokens.get(i);
            }

            boolean is(String text) {
                return now().text.equals(text) && now().sort != '?' && now().sort != 'e';
            }

            void want(String text) {
                if (!is(text)) {
                    throw new Fault(now().place);
                }
                i++;
            }

            void open(String text) {
                if (open == 5) {
                    throw new Fault(now().place);
                }
                open++;
                want(text);
            }

            Expression or() {
                Expression left = and();
                while (is("or")) {
                    i++;
                    Expression a = left, b = and();
                    left = n -> a.value(n) != 0 | b.value(n) != 0 ? 1 : 0;
                }
                return left;
            }

            Expression and() {
                Expression left = not();
                while (is("and")) {
                    i++;
                    Expression a = left, b = not();
                    left = n -> a.value(n) != 0 & b.value(n) != 0 ? 1 : 0;
                }
                return left;
            }

            Expression not() {
                if (is("not")) {
                    open("not");
                    Expression a = not();
                    open--;
                    return n -> a.value(n) == 0 ? 1 : 0;
                }
                Expression a = sum();
                if (is("<")) {
                    i++;
                    Expression b = sum();
                    return n -> a.value(n) < b.value(n) ? 1 : 0;
                }
                if (is("=")) {
                    i++;
                    Expression b = sum();
                    return n -> a.value(n) == b.value(n) ? 1 : 0;
                }
                return a;
            }

            Expression sum() {
                Expression left = term();
                while (is("+") || is("-")) {
                    int sign = is("+") ? 1 : -1;
                    i++;
                    Expression a = left, b = term();
                    left = n -> a.value(n) + sign * b.value(n);
                }
                return left;
            }

            Expression term() {
                Expression left = one();
                while (is("*")) {
                    i++;
                    Expression a = left, b = one();
                    left = n -> a.value(n) * b.value(n);
                }
                return left;
            }

            Expression one() {
                Token t = now();
                if (t.sort == '0') {
                    i++;
                    int number = Integer.parseInt(t.text);
                    return n -> number;
                }
                if (t.sort == 'n') {
                    i++;
                    return n -> n.getOrDefault(t.text, 0);
                }
                if (is("-")) {
                    open("-");
                    Expression a = one();
                    open--;
                    return n -> -a.value(n);
                }
                open("(");
                Expression a = or();
                want(")");
                open--;
                return a;
            }
        }

        int feed(int n, int... five) {
            if (n < 1 || n > 5) {
                return -2;
            }
            for (int b : five) {
                if (b < 0 || b > 255) {
                    return -2;
                }
            }
            if (tape.length() + n > 160) {
                return -4;
            }
            for (int i = 0; i < n; i++) {
                tape.append((char) five[i]);
            }
            return tape.length();
        }

        int text() {
            if (texts.size() == 6) {
                return -4;
            }
            String text = tape.toString();
            tape.setLength(0);
            try {
                texts.add(read(text));
                return texts.size() - 1;
            } catch (Fault f) {
                return -100 - f.place;
            }
        }

        int force(int t) {
            if (t < 0 || t >= texts.size()) {
                return -2;
            }
            int was = law;
            law = t;
            return was;
        }

        boolean lawMay(int off, int on, int at) {
            return texts.get(law).may.value(Map.of("off", off, "on", on, "at", at)) != 0;
        }

        int row(int u, int v) {
            int r = texts.get(law).row.value(Map.of("off", u, "on", v, "base", hours[u][v]));
            return r < 1 ? 1 : r > 99 ? 99 : r;
        }

        int gain(int p, int hour) {
            Someone s = people.get(p);
            int g = texts.get(law).gain.value(Map.of("off", p, "at", s.to, "base", s.worth, "hour", hour, "by", s.by));
            return g < 0 ? 0 : g > 999 ? 999 : g;
        }

        boolean has(int p) {
            return p >= 0 && p < people.size();
        }

        boolean landing(int l) {
            return l >= 0 && l <= 3;
        }

        int asks(int part, int a, int b, int c) {
            switch (part) {
                case 0:
                    return has(a) && has(b) && landing(c) ? lawMay(a, b, c) ? 1 : 0 : -2;
                case 1:
                    return landing(a) && landing(b) && a != b ? row(a, b) : -2;
                case 2:
                    return has(a) && b >= 0 && b <= 400 ? gain(a, b) : -2;
                default:
                    return -2;
            }
        }

        // the lake and people

        int far(int u, int v, int h) {
            if (!landing(u) || !landing(v) || u == v) {
                return -1;
            }
            if (h < 1 || h > 9) {
                return -2;
            }
            int was = hours[u][v];
            hours[u][v] = h;
            hours[v][u] = h;
            return was;
        }

        int moor(int l) {
            if (!landing(l)) {
                return -2;
            }
            int was = boat;
            boat = l;
            return was;
        }

        int aboard() {
            int n = 0;
            for (Someone s : people) {
                n += s.place == 4 ? 1 : 0;
            }
            return n;
        }

        int count(int what) {
            int[] answers = {boat, people.size(), aboard(), moves.size(), texts.size(), law, tape.length()};
            return what < 0 || what > 6 ? -2 : answers[what];
        }

        int person(int kind, int ways, int byWorth, int more) {
            if (kind < 0 || kind > 5 || ways < 0 || ways > 43 || ways % 10 > 3 || byWorth < 0 || byWorth > 9999 || more < 0
                || more > 5) {
                return -2;
            }
            if (people.size() == 6) {
                return -4;
            }
            if (ways >= 40 && aboard() == 3) {
                return -3;
            }
            Someone s = new Someone();
            s.kind = kind;
            s.place = ways / 10;
            s.to = ways % 10;
            s.by = byWorth / 100;
            s.worth = byWorth % 100;
            s.other = more;
            people.add(s);
            return people.size() - 1;
        }

        int foe(int p, int q, int is) {
            if (!has(p) || !has(q) || p == q) {
                return -1;
            }
            if (is < 0 || is > 1) {
                return -2;
            }
            int was = people.get(p).foe[q] ? 1 : 0;
            people.get(p).foe[q] = is == 1;
            people.get(q).foe[p] = is == 1;
            return was;
        }

        int told(int p, int what) {
            if (!has(p)) {
                return -5;
            }
            Someone s = people.get(p);
            int bits = 0;
            for (int q = 0; q < 6; q++) {
                bits += s.foe[q] ? 1 << q : 0;
            }
            int[] answers = {s.kind, s.place, s.to, s.by, s.worth, s.other, bits};
            return what < 0 || what > 6 ? -7 : answers[what];
        }

        int put(int p, int l) {
            if (!has(p)) {
                return -5;
            }
            if (l < 0 || l > 4) {
                return -7;
            }
            Someone s = people.get(p);
            if (l == 4 && s.place != 4 && aboard() == 3) {
                return -3;
            }
            int was = s.place;
            s.place = l;
            return was;
        }

        int may(int off, int on) {
            if (!has(off) || !has(on)) {
                return -5;
            }
            return mayBe(spot(), off, on) ? 1 : 0;
        }

        /** Where all are: the places in order, the boat's last. */
        List<Integer> spot() {
            List<Integer> spot = new ArrayList<>();
            for (Someone s : people) {
                spot.add(s.place);
            }
            spot.add(boat);
            return spot;
        }

        boolean mayBe(List<Integer> spot, int off, int on) {
            if (!has(off) || !has(on)) {
                return false;
            }
            int l = spot.get(people.size());
            if (spot.get(off) != 4 || spot.get(on) != l || !lawMay(off, on, l)) {
                return false;
            }
            Someone leaver = people.get(off);
            Someone boarder = people.get(on);
            boolean othersHere = false;
            for (int p = 0; p < people.size(); p++) {
                othersHere |= p != on && spot.get(p) == l;
            }
            if (leaver.kind == 4 || leaver.kind == 1 && leaver.to != l && !othersHere) {
                return false;
            }
            boolean otherIn = false;
            for (int p = 0; p < people.size(); p++) {
                if (p != off && spot.get(p) == 4) {
                    if (boarder.foe[p]) {
                        return false;
                    }
                    otherIn |= p == boarder.other;
                }
            }
            if (boarder.kind == 5 && !otherIn) {
                return false;
            }
            return allStand(swapped(spot, off, on), l);
        }

        boolean allStand(List<Integer> spot, int l) {
            for (int p = 0; p < people.size(); p++) {
                if (spot.get(p) == l && people.get(p).is(2)) {
                    boolean others = false;
                    for (int q = 0; q < people.size(); q++) {
                        others |= q != p && spot.get(q) == l;
                    }
                    if (!others) {
                        return false;
                    }
                }
            }
            return true;
        }

        List<Integer> swapped(List<Integer> spot, int off, int on) {
            List<Integer> next = new ArrayList<>(spot);
            next.set(off, spot.get(people.size()));
            next.set(on, 4);
            return next;
        }

        List<Integer> rowed(List<Integer> spot, int l) {
            List<Integer> next = new ArrayList<>(spot);
            next.set(people.size(), l);
            return next;
        }

        int alone() {
            int bits = 0;
            for (int l = 0; l < 4; l++) {
                bits += allStand(spot(), l) ? 0 : 1 << l;
            }
            return bits;
        }

        int there(List<Integer> spot) {
            int bits = 0;
            for (int p = 0; p < people.size(); p++) {
                bits += people.get(p).is(3) || spot.get(p) == people.get(p).to ? 1 << p : 0;
            }
            return bits;
        }

        int everyone() {
            return (1 << people.size()) - 1;
        }

        // moves

        int move(int kind, int a, int b) {
            if (kind < 0 || kind > 2 || a < 0 || a > new int[] {3, 5, 99}[kind] || b < 0 || b > 5) {
                return -2;
            }
            if (moves.size() == 16) {
                return -4;
            }
            moves.add(new int[] {kind, a, b});
            return moves.size() - 1;
        }

        int clear() {
            int n = moves.size();
            moves.clear();
            return n;
        }

        final class Trip {
            List<Integer> spot = spot();
            int hour;
            int wrong = -1;
            int gain;

            Trip(int n) {
                boolean[] been = new boolean[6];
                for (int k = 0; k < n; k++) {
                    int[] m = moves.get(k);
                    int at = spot.get(people.size());
                    boolean may = m[0] == 0 ? m[1] != at : m[0] == 2 || mayBe(spot, m[1], m[2]);
                    if (!may) {
                        wrong = wrong < 0 ? k : wrong;
                    } else if (m[0] == 0) {
                        hour += row(at, m[1]);
                        spot = rowed(spot, m[1]);
                    } else if (m[0] == 1) {
                        spot = swapped(spot, m[1], m[2]);
                    } else {
                        hour += m[1];
                    }
                    for (int p = 0; p < people.size(); p++) {
                        if (!been[p] && spot.get(p) == people.get(p).to) {
                            been[p] = true;
                            gain += gain(p, hour);
                        }
                    }
                }
            }
        }

        int judge() {
            return new Trip(moves.size()).wrong;
        }

        int run(int n, int what) {
            if (n < 0 || n > moves.size()) {
                return -5;
            }
            if (what < 0 || what > 3) {
                return -7;
            }
            Trip t = new Trip(n);
            return new int[] {t.hour, t.spot.get(people.size()), there(t.spot), t.gain}[what];
        }

        int where(int n, int p) {
            if (n < 0 || n > moves.size() || !has(p)) {
                return -5;
            }
            return new Trip(n).spot.get(p);
        }

        // all that can be come to

        record Way(List<Integer> spot, int cost) {
        }

        /** Each state's least cost, 400 at most. measure: 0 hours, 1 swaps, 2 rowings. */
        Map<List<Integer>, Integer> states(List<Integer> from, int measure) {
            Map<List<Integer>, Integer> least = new HashMap<>();
            PriorityQueue<Way> queue = new PriorityQueue<>((a, b) -> a.cost - b.cost);
            queue.add(new Way(from, 0));
            while (!queue.isEmpty()) {
                Way way = queue.remove();
                if (way.cost > 400 || least.containsKey(way.spot)) {
                    continue;
                }
                least.put(way.spot, way.cost);
                int at = way.spot.get(people.size());
                for (int l = 0; l < 4; l++) {
                    if (l != at) {
                        int price = measure == 0 ? row(at, l) : measure == 1 ? 0 : 1;
                        queue.add(new Way(rowed(way.spot, l), way.cost + price));
                    }
                }
                for (int off = 0; off < people.size(); off++) {
                    for (int on = 0; on < people.size(); on++) {
                        if (mayBe(way.spot, off, on)) {
                            queue.add(new Way(swapped(way.spot, off, on), way.cost + (measure == 1 ? 1 : 0)));
                        }
                    }
                }
            }
            return least;
        }

        int leastForAll(List<Integer> from, int measure, int uncounted) {
            int best = -1;
            for (Map.Entry<List<Integer>, Integer> e : states(from, measure).entrySet()) {
                if ((there(e.getKey()) | uncounted) == (everyone() | uncounted) && (best < 0 || e.getValue() < best)) {
                    best = e.getValue();
                }
            }
            return best;
        }

        int all(int what) {
            return what < 0 || what > 2 ? -2 : leastForAll(spot(), what, 0);
        }

        int soonest(int p) {
            if (!has(p)) {
                return -5;
            }
            int best = -1;
            for (Map.Entry<List<Integer>, Integer> e : states(spot(), 0).entrySet()) {
                if (e.getKey().get(p) == people.get(p).to && (best < 0 || e.getValue() < best)) {
                    best = e.getValue();
                }
            }
            return best;
        }

        int never(int what) {
            if (what < 0 || what > 1) {
                return -2;
            }
            Map<List<Integer>, Integer> states = states(spot(), 0);
            int bits = everyone();
            for (List<Integer> spot : states.keySet()) {
                bits &= ~there(spot);
            }
            return what == 0 ? bits : states.size();
        }

        int best(int hour, int what) {
            if (hour < 0 || hour > 400 || what < 0 || what > 1) {
                return -2;
            }
            int most = -1;
            int fewest = -1;
            Map<Integer, Integer> gains = new HashMap<>();
            for (Map.Entry<List<Integer>, Integer> e : states(spot(), 0).entrySet()) {
                int h = e.getValue();
                if (h > hour) {
                    continue;
                }
                int gain = 0;
                for (int p = 0; p < people.size(); p++) {
                    if (e.getKey().get(p) == people.get(p).to) {
                        int who = p;
                        gain += gains.computeIfAbsent(10 * h + p, k -> gain(who, h));
                    }
                }
                if (gain > most || gain == most && h < fewest) {
                    most = gain;
                    fewest = h;
                }
            }
            return what == 0 ? most : fewest;
        }

        // bounds

        int way(int u, int v) {
            if (!landing(u) || !landing(v)) {
                return -5;
            }
            int best = u == v ? 0 : row(u, v);
            for (int a = 0; a < 4; a++) {
                if (a == u || u == v || a == v) {
                    continue;
                }
                best = Math.min(best, row(u, a) + row(a, v));
                for (int b = 0; b < 4; b++) {
                    if (b != u && b != v && b != a) {
                        best = Math.min(best, row(u, a) + row(a, b) + row(b, v));
                    }
                }
            }
            return best;
        }

        int bound() {
            int most = 0;
            for (int p = 0; p < people.size(); p++) {
                Someone s = people.get(p);
                if ((there(spot()) >> p & 1) == 0) {
                    int at = s.place == 4 ? boat : s.place;
                    most = Math.max(most, (s.place == 4 ? 0 : way(boat, at)) + way(at, s.to));
                }
            }
            return most;
        }

        int gap() {
            int all = all(0);
            return all < 0 ? -1 : all - bound();
        }

        // what would help

        int help(int what) {
            if (what < 0 || what > 1) {
                return -2;
            }
            if (people.size() == 6) {
                return -3;
            }
            if (all(0) >= 0) {
                return -1;
            }
            for (int l = 0; l < 4; l++) {
                person(3, 10 * l, 0, 0);
                int hours = all(0);
                people.remove(people.size() - 1);
                if (hours >= 0) {
                    return what == 0 ? l : hours;
                }
            }
            return -1;
        }

        int laws() {
            int was = law;
            int bits = 0;
            for (int t = 0; t < texts.size(); t++) {
                law = t;
                bits += all(0) >= 0 ? 1 << t : 0;
            }
            law = was;
            return bits;
        }

        int join(int u, int v) {
            if (!landing(u) || !landing(v) || u == v) {
                return -5;
            }
            int were = far(u, v, 1);
            int hours = all(0);
            far(u, v, were);
            return hours;
        }

        int leave(int what) {
            if (what < 0 || what > 1) {
                return -2;
            }
            int who = -1;
            int fewest = -1;
            for (int p = 0; p < people.size(); p++) {
                int hours = leastForAll(spot(), 0, 1 << p);
                if (hours >= 0 && (who < 0 || hours < fewest)) {
                    who = p;
                    fewest = hours;
                }
            }
            return what == 0 ? who : fewest;
        }

        int first() {
            int hours = all(0);
            for (int off = 0; off < people.size() && hours >= 0; off++) {
                for (int on = 0; on < people.size(); on++) {
                    if (mayBe(spot(), off, on) && leastForAll(swapped(spot(), off, on), 0, 0) == hours) {
                        return 10 * off + on;
                    }
                }
            }
            return -1;
        }

        // by lot

        int drawn(int seed, int n, int what) {
            if (seed < 0 || seed > 99999 || n < 0 || n > 40 || what < 0 || what > 2) {
                return -2;
            }
            return draw(seed, n)[what];
        }

        int[] draw(int seed, int n) {
            List<Integer> spot = spot();
            int hour = 0;
            long lot = seed + 1;
            for (int k = 0; k < n; k++) {
                lot = lot * 48271 % 2147483647;
                List<List<Integer>> next = new ArrayList<>();
                List<Integer> prices = new ArrayList<>();
                for (int off = 0; off < people.size(); off++) {
                    for (int on = 0; on < people.size(); on++) {
                        if (mayBe(spot, off, on)) {
                            next.add(swapped(spot, off, on));
                            prices.add(0);
                        }
                    }
                }
                int at = spot.get(people.size());
                for (int l = 0; l < 4; l++) {
                    if (l != at) {
                        next.add(rowed(spot, l));
                        prices.add(row(at, l));
                    }
                }
                int chosen = (int) (lot % next.size());
                spot = next.get(chosen);
                hour += prices.get(chosen);
            }
            return new int[] {there(spot), hour, spot.get(people.size())};
        }

        long chance(int p, int seed, int how, int part) {
            if (!has(p) || seed < 0 || seed > 99999 || how < 100 || how / 100 > 20 || how % 100 > 40 || part < 0 || part > 1) {
                return OneForOne.NO;
            }
            int above = 0;
            int below = how / 100;
            for (int k = 0; k < below; k++) {
                above += draw(seed + k, how % 100)[0] >> p & 1;
            }
            int common = 1;
            for (int d = 2; d <= below; d++) {
                if (above % d == 0 && below % d == 0) {
                    common = d;
                }
            }
            return part == 0 ? above / common : below / common;
        }

        int image() {
            keptPeople = new ArrayList<>();
            for (Someone s : people) {
                keptPeople.add(s.copy());
            }
            keptBoat = boat;
            keptLaw = law;
            keptHours = new int[4][];
            for (int u = 0; u < 4; u++) {
                keptHours[u] = hours[u].clone();
            }
            return people.size();
        }

        int back() {
            if (keptPeople == null) {
                return -3;
            }
            people = new ArrayList<>();
            for (Someone s : keptPeople) {
                people.add(s.copy());
            }
            boat = keptBoat;
            law = keptLaw;
            for (int u = 0; u < 4; u++) {
                hours[u] = keptHours[u].clone();
            }
            return people.size();
        }

        // the host

        int sheet(int s, int sort, int n) {
            if (s < 0 || s > 3 || sort < -1 || sort > 2 || sort >= 0 && n > 40) {
                return -2;
            }
            if (sort >= 0 && n < 0) {
                return -14;
            }
            sorts[s] = sort;
            rows[s] = sort < 0 ? null : new int[n];
            return 1;
        }

        int cell(int s, int i, int v) {
            if (s < 0 || s > 3) {
                return -2;
            }
            if (rows[s] == null) {
                return -11;
            }
            if (i < 0 || i >= rows[s].length) {
                return -12;
            }
            rows[s][i] = sorts[s] == 0 ? (byte) v : sorts[s] == 1 ? (short) v : v;
            return 1;
        }

        int copy(int s, int i, int other, int j, int n) {
            if (s < 0 || s > 3 || other < 0 || other > 3) {
                return -2;
            }
            if (rows[s] == null || rows[other] == null) {
                return -11;
            }
            if (sorts[s] != sorts[other]) {
                return -13;
            }
            if (n < 0 || i < 0 || j < 0 || (long) i + n > rows[s].length || (long) j + n > rows[other].length) {
                return -12;
            }
            int[] were = rows[s].clone();
            for (int k = 0; k < n; k++) {
                rows[other][j + k] = were[i + k];
            }
            return n;
        }

        int peopleBy(int s, int sort, int place, int n) {
            if (s < 0 || s > 3 || sort < 0 || sort > 2 || n < 0 || n > 6) {
                return -2;
            }
            if (rows[s] == null) {
                return -11;
            }
            if (sorts[s] != sort) {
                return -13;
            }
            int came = 0;
            long at = place;
            for (int k = 0; k < n; k++, at += 4) {
                if (at < 0 || at + 3 >= rows[s].length) {
                    return -12;
                }
                int i = (int) at;
                came += person(rows[s][i], rows[s][i + 1], rows[s][i + 2], rows[s][i + 3]) >= 0 ? 1 : 0;
            }
            return came;
        }

        int taken(int i, int kind) {
            if (kind < 0 || kind > 6) {
                return -2;
            }
            if (i < 0 || i > 9) {
                return -12;
            }
            if (i < 4) {
                int n = 0;
                for (Someone s : people) {
                    n += s.place == i ? 1 : 0;
                }
                return kind == 6 ? n : -13;
            }
            if (!has(i - 4)) {
                return -11;
            }
            return kind < 6 && people.get(i - 4).is(kind) ? i - 4 : -13;
        }
    }
}
