import java.io.IOException;
import java.nio.file.Files;
import java.nio.file.Path;
import java.util.ArrayList;
import java.util.List;
import java.util.function.Supplier;
import java.util.function.ToLongFunction;

/**
 * Each sentence of ../shared/DOC.md that names a boundary case has a test of its own here, which bears the sentence's
 * words; that the document says them in the section that is named is looked at, too.
 */
public final class SentencesTest {
    private static final long NO = OneForOne.NO;

    private static String document;
    private static String section;
    private static String words;
    private static int sentences = 0;
    private static int answers = 0;
    private static int wrong = 0;

    public static void main(String[] args) throws IOException {
        Path path = Path.of("../shared/DOC.md");
        document = Files.exists(path) ? Files.readString(path) : null;
        wholeObject();
        termsOfTheLake();
        termsOfSwaps();
        termsOfKinds();
        termsOfTokens();
        termsOfTheGrammar();
        termsOfFaults();
        termsOfTexts();
        termsOfMoves();
        termsOfWays();
        termsOfTheBound();
        termsOfLots();
        termsOfImagesAndSheets();
        termsOfRefusals();
        termsOfChanges();
        theLakeAndTheLaw();
        people();
        moves();
        allThatCanBeComeTo();
        bounds();
        whatWouldHelp();
        movesByLot();
        theHost();
        System.out.println(sentences + " sentences, " + answers + " answers, " + wrong + " not as due");
        if (wrong > 0) {
            System.exit(1);
        }
    }

    // ---- what all tests need

    private static void in(String heading) {
        section = heading;
    }

    /** One sentence (or the part of it that names a case) and its test. */
    private static void sentence(String quoted, Runnable test) {
        sentences++;
        words = quoted;
        if (document != null && !sectionText().contains(quoted)) {
            say("the document doesn't say that there");
        }
        try {
            test.run();
        } catch (RuntimeException e) {
            say("a call threw " + e);
        }
    }

    private static String sectionText() {
        int from = document.indexOf("\n## " + section);
        int to = from < 0 ? -1 : document.indexOf("\n## ", from + 1);
        return from < 0 ? "" : to < 0 ? document.substring(from) : document.substring(from, to);
    }

    private static void say(String what) {
        wrong++;
        System.out.println(section + ", '" + words + "': " + what);
    }

    private static void due(String call, long got, long want) {
        answers++;
        if (got != want) {
            say(call + " answered " + got + ", due is " + want);
        }
    }

    private static void tape(OneForOne x, String text) {
        for (int i = 0; i < text.length(); i += 5) {
            int n = Math.min(5, text.length() - i);
            int[] b = new int[5];
            for (int k = 0; k < n; k++) {
                b[k] = text.charAt(i + k);
            }
            x.feed(n, b[0], b[1], b[2], b[3], b[4]);
        }
    }

    private static int read(OneForOne x, String text) {
        tape(x, text);
        return x.text();
    }

    /** A text is read and is THE LAW. */
    private static void rule(OneForOne x, String text) {
        int t = read(x, text);
        if (t < 0) {
            say("[" + text + "] is no TEXT: " + t);
        }
        x.force(t);
    }

    private static void rule(OneForOne x, String may, String row, String gain) {
        rule(x, "may " + may + ";row " + row + ";gain " + gain + ";");
    }

    private static void fault(String text, int place) {
        due("[" + text.replace('\n', '~') + "]", read(new OneForOne(), text), -100 - place);
    }

    private static void good(String text) {
        due("[" + text.replace('\n', '~') + "]", read(new OneForOne(), text), 1);
    }

    /** What an E is: gain of one who is number 1, TO 2, BY 7, WORTH 40, at hour 9. Below 0 and above 999 it can't tell. */
    private static void value(String e, int want) {
        OneForOne x = new OneForOne();
        x.person(0, 0, 0, 0);
        x.person(0, 2, 740, 0);
        rule(x, "1", "1", e);
        due(e, x.asks(2, 1, 9, 0), want);
    }

    /** Nobody; n PERSONS at landing 0, TO 0. */
    private static OneForOne crowd(int n) {
        OneForOne x = new OneForOne();
        for (int p = 0; p < n; p++) {
            x.person(0, 0, 0, 0);
        }
        return x;
    }

    /** 0 is a PERSON ABOARD, 1 one at landing 0: they can be swapped. Then the boat is a place for tests of kinds. */
    private static OneForOne pair(int kindOff, int kindOn) {
        OneForOne x = new OneForOne();
        x.person(kindOff, 41, 0, 0);
        x.person(kindOn, 2, 0, 0);
        return x;
    }

    /**
     * One PAID aboard, 1 from landing 0 to 2 (by 5, worth 30), 2 from landing 2 to 0 (by 4, worth 50). The boat takes 1
     * to landing 2 in 2 hours, 2 to landing 0 in 4; three swaps, two rowings.
     */
    private static OneForOne ferry() {
        OneForOne x = new OneForOne();
        x.person(3, 40, 0, 0);
        x.person(0, 2, 530, 0);
        x.person(0, 20, 450, 0);
        return x;
    }

    /** Two more for the ferry: 3 from landing 1 to 3, 4 from landing 3 to 1. It takes 8 hours, 6 swaps, 5 rowings. */
    private static OneForOne longFerry() {
        OneForOne x = ferry();
        x.person(0, 13, 0, 0);
        x.person(0, 31, 0, 0);
        return x;
    }

    /** One PAID ABOARD who brings one from landing 0 to 1, and a like one back: what it takes is once the way 0 to 1. */
    private static OneForOne shuttle() {
        OneForOne x = new OneForOne();
        x.person(3, 40, 0, 0);
        x.person(0, 1, 910, 0);
        x.person(3, 13, 920, 0);
        return x;
    }

    /** 1 is ABOARD and must to landing 1, but nobody is anywhere to be taken on: it is never THERE. */
    private static OneForOne stuck() {
        OneForOne x = new OneForOne();
        x.person(0, 41, 510, 0);
        return x;
    }

    /**
     * By may, only the next one by number is taken ON, by turns at landing 1 and at 0: 4 comes to 1, its TO, with the
     * fifth row, if 5 is there to be taken ON. 3 comes from 1 to 0 (TO 2); all but 4, and 3, if it is told so, are PAID.
     */
    private static OneForOne chain(int people, int kindOf3, String row) {
        OneForOne x = new OneForOne();
        int[] kinds = {3, 3, 3, kindOf3, 0, 3};
        int[] ways = {40, 10, 0, 12, 1, 10};
        for (int p = 0; p < people; p++) {
            x.person(kinds[p], ways[p], 0, 0);
        }
        rule(x, "on=off+1", row, "7*(off=4)");
        return x;
    }

    // ---- what it is

    private static void wholeObject() {
        in("The public face");
        sentence("public static final int NONE = -1, BAD = -2, STATE = -3, FULL = -4;", () -> {
            due("NONE", OneForOne.NONE, -1);
            due("BAD", OneForOne.BAD, -2);
            due("STATE", OneForOne.STATE, -3);
            due("FULL", OneForOne.FULL, -4);
        });
        sentence("public static final long NO = -4611686018427387904L;", () -> {
            due("NO", OneForOne.NO, -4611686018427387904L);
            due("chance(0, 0, 100, 0) of nobody", new OneForOne().chance(0, 0, 100, 0), -4611686018427387904L);
        });
        in("What it is");
        sentence("An object is used for at most 512 calls after it has been made", () -> {
            OneForOne x = longFerry();
            for (int call = 5; call < 511; call++) {
                int turn = call % 8;
                long got = turn == 0 ? x.all(1) : turn == 1 ? x.all(2) : turn == 2 ? x.first() : turn == 3 ? x.laws()
                    : turn == 4 ? x.join(1, 3) : turn == 5 ? x.leave(1) : turn == 6 ? x.best(400, 0) : x.never(1);
                long[] want = {6, 5, 1, 1, 6, 6, 80, 480};
                if (got != want[turn]) {
                    due("call " + call + " of turn " + turn, got, want[turn]);
                }
            }
            due("the 512th call, all(0)", x.all(0), 8);
            OneForOne y = crowd(2);
            for (int call = 2; call < 511; call++) {
                y.chance(0, 99999, 2040, 0);
            }
            due("the 512th call, count(1)", y.count(1), 2);
        });
    }

    // ---- terms: the lake

    private static void termsOfTheLake() {
        in("Terms");
        sentence("LANDINGS 0 .. 3", () -> {
            OneForOne x = crowd(1);
            due("moor(3)", x.moor(3), 0);
            due("moor(0)", x.moor(0), 3);
            due("moor(4)", x.moor(4), -2);
            due("moor(-1)", x.moor(-1), -2);
            due("put(0, 3)", x.put(0, 3), 0);
            due("put(0, 0)", x.put(0, 0), 3);
            due("put(0, -1)", x.put(0, -1), -7);
            due("way(3, 0)", x.way(3, 0), 3);
            due("way(4, 0)", x.way(4, 0), -5);
            due("way(3, -1)", x.way(3, -1), -5);
            due("move(0, 3, 0)", x.move(0, 3, 0), 0);
            due("move(0, 4, 0)", x.move(0, 4, 0), -2);
            due("move(0, 0, 0)", x.move(0, 0, 0), 1);
            due("move(0, -1, 0)", x.move(0, -1, 0), -2);
        });
        sentence("HOURS between two, either way (1 .. 9; at first how far their numbers are apart)", () -> {
            OneForOne x = new OneForOne();
            for (int u = 0; u < 4; u++) {
                for (int v = 0; v < 4; v++) {
                    if (u != v) {
                        due("asks(1, " + u + ", " + v + ", 0) at first", x.asks(1, u, v, 0), Math.abs(u - v));
                    }
                }
            }
            due("far(0, 2, 1)", x.far(0, 2, 1), 2);
            due("far(2, 0, 9), either way", x.far(2, 0, 9), 1);
            due("far(0, 2, 9), either way", x.far(0, 2, 9), 9);
            due("far(0, 2, 0)", x.far(0, 2, 0), -2);
            due("far(0, 2, 10)", x.far(0, 2, 10), -2);
            due("asks(1, 0, 2, 0)", x.asks(1, 0, 2, 0), 9);
            due("asks(1, 2, 0, 0)", x.asks(1, 2, 0, 0), 9);
        });
        sentence("THE BOAT is at a LANDING (0 at first)", () -> {
            OneForOne x = new OneForOne();
            due("count(0)", x.count(0), 0);
            due("moor(0), where it was", x.moor(0), 0);
        });
        sentence("PEOPLE are numbered from 0 on, 6 at most", () -> {
            OneForOne x = new OneForOne();
            for (int p = 0; p < 6; p++) {
                due("person() the next", x.person(0, 0, 0, 0), p);
            }
            due("person() the seventh", x.person(0, 0, 0, 0), -4);
            due("count(1)", x.count(1), 6);
            due("told(5, 0)", x.told(5, 0), 0);
            due("told(6, 0)", x.told(6, 0), -5);
        });
        sentence("at a LANDING or ABOARD (4; 3 there at most)", () -> {
            OneForOne x = new OneForOne();
            for (int p = 0; p < 3; p++) {
                due("person(0, 40, 0, 0)", x.person(0, 40, 0, 0), p);
            }
            due("person(0, 40, 0, 0), a fourth ABOARD", x.person(0, 40, 0, 0), -3);
            due("person(0, 30, 0, 0)", x.person(0, 30, 0, 0), 3);
            due("put(3, 4), a fourth ABOARD", x.put(3, 4), -3);
            due("put(2, 0)", x.put(2, 0), 4);
            due("put(3, 4), a third", x.put(3, 4), 3);
            due("put(3, 5)", x.put(3, 5), -7);
            due("person(0, 50, 0, 0)", x.person(0, 50, 0, 0), -2);
            due("count(2)", x.count(2), 3);
        });
        sentence("TO a LANDING, BY an hour (0 .. 99), WORTH (0 .. 99), OTHER (0 .. 5)", () -> {
            OneForOne x = new OneForOne();
            due("person(0, 3, 9999, 5)", x.person(0, 3, 9999, 5), 0);
            due("person(0, 0, 0, 0)", x.person(0, 0, 0, 0), 1);
            int[] most = {3, 99, 99, 5};
            for (int what = 2; what < 6; what++) {
                due("told(0, " + what + ")", x.told(0, what), most[what - 2]);
                due("told(1, " + what + ")", x.told(1, what), 0);
            }
            due("TO 4", x.person(0, 4, 0, 0), -2);
            due("BY 100", x.person(0, 0, 10000, 0), -2);
            due("below 0", x.person(0, 0, -1, 0), -2);
            due("OTHER 6", x.person(0, 0, 0, 6), -2);
            due("OTHER -1", x.person(0, 0, 0, -1), -2);
        });
        sentence("FOES: two who can't be in one boat (none at first)", () -> {
            OneForOne x = crowd(6);
            for (int p = 0; p < 6; p++) {
                due("told(" + p + ", 6) at first", x.told(p, 6), 0);
            }
            x.put(0, 4);
            x.put(1, 4);
            due("may(0, 2) at first", x.may(0, 2), 1);
            x.foe(1, 2, 1);
            due("may(0, 2), 1 and 2 in one boat", x.may(0, 2), 0);
            due("may(1, 2), they only change places", x.may(1, 2), 1);
        });
    }

    // ---- terms: a swap

    private static void termsOfSwaps() {
        in("Terms");
        sentence("A SWAP, where THE BOAT is: one who is ABOARD is put OFF, one who is at that LANDING is taken ON, at once", () -> {
            OneForOne x = crowd(4);
            x.put(0, 4);
            x.put(1, 4);
            x.put(3, 2);
            due("may(0, 2)", x.may(0, 2), 1);
            due("may(1, 2)", x.may(1, 2), 1);
            due("may(2, 0), OFF isn't ABOARD, ON is", x.may(2, 0), 0);
            due("may(0, 1), ON is ABOARD, too", x.may(0, 1), 0);
            due("may(0, 0), alike", x.may(0, 0), 0);
            due("may(2, 2), alike", x.may(2, 2), 0);
            due("may(0, 3), ON is at another LANDING", x.may(0, 3), 0);
            due("may(3, 2), OFF is at another LANDING", x.may(3, 2), 0);
            x.moor(2);
            due("may(0, 3), where THE BOAT is", x.may(0, 3), 1);
            due("may(0, 2), where it was", x.may(0, 2), 0);
            x.move(1, 0, 3);
            due("where(1, 0), put OFF", x.where(1, 0), 2);
            due("where(1, 3), taken ON", x.where(1, 3), 4);
            due("where(1, 1), the others stay", x.where(1, 1), 4);
        });
        sentence("It MAY BE, if may of THE LAW isn't 0", () -> {
            String[] may = {"0", "1", "2", "-1", "9999", "1-1", "off", "on-1"};
            int[] is = {0, 1, 1, 1, 1, 0, 0, 0};
            for (int k = 0; k < may.length; k++) {
                OneForOne x = pair(0, 0);
                rule(x, may[k], "1", "1");
                due("may(0, 1) by may " + may[k], x.may(0, 1), is[k]);
            }
        });
        sentence("the one MAY LEAVE, the other one MAY BOARD, and behind it all at that LANDING MAY STAND there", () -> {
            due("may(0, 1), 0 may not LEAVE", pair(4, 0).may(0, 1), 0);
            OneForOne x = pair(0, 0);
            x.person(0, 40, 0, 0);
            x.foe(1, 2, 1);
            due("may(0, 1), 1 may not BOARD", x.may(0, 1), 0);
            due("may(0, 1), 0 may not STAND there", pair(2, 0).may(0, 1), 0);
            OneForOne y = pair(0, 0);
            y.person(2, 10, 0, 0);
            due("may(0, 1), one elsewhere may not STAND", y.may(0, 1), 1);
            OneForOne z = pair(0, 0);
            z.person(2, 0, 0, 0);
            due("may(0, 1), one who stays there stands with 0", z.may(0, 1), 1);
            due("may(0, 2), it is taken ON", z.may(0, 2), 1);
        });
    }

    // ---- terms: kinds

    private static void termsOfKinds() {
        in("Terms");
        sentence("others at the LANDING (without the one who is taken ON), in THE BOAT (without the one who is put OFF), at one's LANDING", () -> {
            OneForOne x = pair(1, 0);
            due("may(0, 1), a GOAT and only the one who is taken ON", x.may(0, 1), 0);
            x.person(0, 0, 0, 0);
            due("may(0, 1), a GOAT and one more", x.may(0, 1), 1);
            x.put(2, 4);
            due("may(0, 1), a GOAT and one more in THE BOAT", x.may(0, 1), 0);
            x.put(2, 1);
            due("may(0, 1), a GOAT and one more elsewhere", x.may(0, 1), 0);
            OneForOne y = pair(0, 0);
            y.person(0, 40, 0, 0);
            y.foe(0, 1, 1);
            due("may(0, 1), a FOE is just put OFF", y.may(0, 1), 1);
            due("may(2, 1), a FOE stays in THE BOAT", y.may(2, 1), 0);
            OneForOne z = pair(2, 0);
            due("may(0, 1), a CHILD where only the one was who is taken ON", z.may(0, 1), 0);
        });
        sentence("0 PERSON: MAY LEAVE always; MAY BOARD, if no FOE of it is in THE BOAT; MAY STAND always; is THERE at TO", () -> {
            OneForOne x = pair(0, 0);
            due("may(0, 1), alone and not at TO", x.may(0, 1), 1);
            due("alone(), one PERSON", x.alone(), 0);
            for (int on = 0; on < 6; on++) {
                for (int foe = 0; foe < 6; foe++) {
                    if (on != foe) {
                        OneForOne y = crowd(6);
                        int off = firstBut(on, foe);
                        y.put(off, 4);
                        y.put(foe, 4);
                        due("may(" + off + ", " + on + ")", y.may(off, on), 1);
                        y.foe(on, foe, 1);
                        due("may(" + off + ", " + on + "), its FOE " + foe + " is in THE BOAT", y.may(off, on), 0);
                    }
                }
            }
            for (int p = 0; p < 6; p++) {
                OneForOne y = crowd(6);
                for (int q = 0; q < 6; q++) {
                    y.put(q, q == p ? 0 : 1);
                }
                due("run(0, 2), only " + p + " is at TO", y.run(0, 2), 1 << p);
            }
        });
        sentence("1 GOAT (a PERSON): MAY LEAVE also only at TO, or where there are others", () -> {
            for (int p = 0; p < 6; p++) {
                OneForOne x = new OneForOne();
                int on = (p + 1) % 6;
                for (int q = 0; q < 6; q++) {
                    x.person(q == p ? 1 : 0, q == p ? 42 : q == on ? 20 : 10, 0, 0);
                }
                x.moor(1);
                due("may(" + p + ", ..), where there are others", x.may(p, (p + 2) % 6), 1);
                x.moor(2);
                due("may(" + p + ", " + on + "), at TO, alone", x.may(p, on), 1);
                x.moor(0);
                x.put(on, 0);
                due("may(" + p + ", " + on + "), not at TO, alone", x.may(p, on), 0);
            }
            OneForOne a = pair(1, 0);
            a.foe(0, 1, 1);
            a.person(0, 42, 0, 0);
            a.person(0, 0, 0, 0);
            due("may(2, 1), a PERSON: a GOAT's FOE doesn't board", a.may(2, 1), 0);
        });
        sentence("2 CHILD (a PERSON): MAY STAND only where there are others", () -> {
            for (int p = 0; p < 6; p++) {
                OneForOne x = new OneForOne();
                int on = (p + 1) % 6;
                for (int q = 0; q < 6; q++) {
                    x.person(q == p ? 2 : 0, q == p ? 40 : q == on ? 0 : 10, 0, 0);
                }
                due("may(" + p + ", " + on + "), alone, at TO", x.may(p, on), 0);
                x.moor(1);
                due("may(" + p + ", ..), where there are others", x.may(p, (p + 2) % 6), 1);
                x.put(p, 3);
                due("alone(), " + p + " is", x.alone(), 8);
                x.put(on, 3);
                due("alone(), " + p + " isn't", x.alone(), 0);
            }
            OneForOne y = pair(0, 2);
            due("may(0, 1), a CHILD who stood alone is taken ON", y.may(0, 1), 1);
            OneForOne z = pair(0, 0);
            z.person(2, 0, 0, 0);
            z.put(0, 1);
            z.put(1, 4);
            z.person(0, 40, 0, 0);
            due("alone(), a CHILD is", z.alone(), 1);
            due("may(1, 2), it changes places with 1", z.may(1, 2), 1);
        });
        sentence("3 PAID (a PERSON): is always THERE", () -> {
            for (int p = 0; p < 6; p++) {
                OneForOne x = new OneForOne();
                for (int q = 0; q < 6; q++) {
                    x.person(q == p ? 3 : 0, 1, 0, 0);
                }
                due("run(0, 2), " + p + " is PAID", x.run(0, 2), 1 << p);
                x.put(p, 4);
                due("run(0, 2), ABOARD", x.run(0, 2), 1 << p);
                due("may(" + p + ", ..), it MAY LEAVE as a PERSON", x.may(p, (p + 1) % 6), 1);
            }
        });
        sentence("4 KNITTING (a PAID): never MAY LEAVE", () -> {
            for (int p = 0; p < 6; p++) {
                OneForOne x = new OneForOne();
                int on = (p + 1) % 6;
                for (int q = 0; q < 6; q++) {
                    x.person(q == p ? 4 : 0, q == p ? 40 : 1, 0, 0);
                }
                due("run(0, 2), a PAID: always THERE", x.run(0, 2), 1 << p);
                due("may(" + p + ", " + on + "), at TO, with others", x.may(p, on), 0);
                x.put(p, 0);
                x.put(on, 4);
                due("may(" + on + ", " + p + "), it MAY BOARD", x.may(on, p), 1);
            }
        });
        sentence("5 TWIN (a CHILD): MAY BOARD also only if OTHER is in THE BOAT", () -> {
            for (int p = 0; p < 6; p++) {
                for (int other = 0; other < 6; other++) {
                    OneForOne x = new OneForOne();
                    for (int q = 0; q < 6; q++) {
                        x.person(q == p ? 5 : 0, 0, 0, q == p ? other : 0);
                    }
                    int off = firstBut(p, other);
                    x.put(off, 4);
                    due("may(" + off + ", " + p + "), OTHER " + other + " isn't ABOARD", x.may(off, p), 0);
                    if (other != p) {
                        x.put(other, 4);
                        due("may(" + off + ", " + p + "), OTHER " + other + " is", x.may(off, p), 1);
                        due("may(" + other + ", " + p + "), OTHER is put OFF", x.may(other, p), 0);
                        x.foe(p, other, 1);
                        due("may(" + off + ", " + p + "), also: a FOE is", x.may(off, p), 0);
                    }
                }
            }
            OneForOne y = pair(0, 5);
            y.person(0, 40, 0, 0);
            due("may(2, 1), OTHER is 0", y.may(2, 1), 1);
            due("may(0, 1), OTHER is 0", y.may(0, 1), 0);
            OneForOne z = new OneForOne();
            z.person(0, 40, 0, 0);
            z.person(5, 0, 0, 5);
            z.person(0, 40, 0, 0);
            due("may(0, 1), OTHER 5 is nobody", z.may(0, 1), 0);
            due("may(0, 1), a CHILD: may not STAND alone", pair(5, 0).may(0, 1), 0);
        });
        sentence("(Whatever isn't told is as of the KIND above.)", () -> {
            int[] leaves = {1, 0, 1, 1, 0, 1};
            int[] stands = {1, 1, 0, 1, 1, 0};
            int[] boards = {1, 1, 1, 1, 1, 0};
            int[] isThere = {0, 0, 0, 1, 1, 0};
            for (int kind = 0; kind < 6; kind++) {
                OneForOne x = pair(kind, 0);
                due("may(0, 1) of KIND " + kind + " alone", x.may(0, 1), leaves[kind] * stands[kind]);
                due("run(0, 2) of KIND " + kind + " not at TO", x.run(0, 2), isThere[kind]);
                x.put(0, 1);
                due("run(0, 2) of KIND " + kind + " at TO", x.run(0, 2), 1);
                due("alone() of KIND " + kind, x.alone(), stands[kind] == 1 ? 0 : 2);
                OneForOne y = pair(0, kind);
                due("may(0, 1), KIND " + kind + " boards", y.may(0, 1), boards[kind]);
                y.person(0, 40, 0, 0);
                y.foe(1, 2, 1);
                due("may(0, 1), KIND " + kind + " with a FOE", y.may(0, 1), 0);
            }
        });
    }

    private static int firstBut(int a, int b) {
        for (int p = 0; p < 6; p++) {
            if (p != a && p != b) {
                return p;
            }
        }
        return 0;
    }

    // ---- terms: texts

    private static void termsOfTokens() {
        in("Terms");
        sentence("A TEXT is read from THE TAPE (160 bytes at most)", () -> {
            OneForOne x = new OneForOne();
            String text = "may 1;row 7;gain 1;";
            String end = " ".repeat(160 - text.length());
            tape(x, text + end);
            due("count(6)", x.count(6), 160);
            due("feed(1, ..), the 161st", x.feed(1, 32, 0, 0, 0, 0), -4);
            due("text()", x.text(), 1);
            tape(x, end + text);
            due("text(), its last byte is the 160th", x.text(), 2);
            x.force(2);
            due("asks(1, 0, 1, 0)", x.asks(1, 0, 1, 0), 7);
            tape(x, end + text.substring(0, text.length() - 1) + "+");
            due("text(), the last byte can't stand there", x.text(), -100 - 159 - 1);
            tape(x, end + text.substring(0, text.length() - 1) + ",");
            due("text(), the last byte is none", x.text(), -100 - 159);
        });
        sentence("TOKENS, each as long as can be", () -> {
            fault("may 1;row 1;gain offon;", 17);
            fault("may 1;row 1;gain 12345;", 17);
            fault("mayrow 1;", 0);
            good("may1;row off*2;gain 1and 2or 3;");
        });
        sentence("WORDS (as many letters a .. z as stand there)", () -> {
            fault("may a;", 4);
            fault("may z;", 4);
            fault("may of;", 4);
            fault("may offa;", 4);
            fault("may onz;", 4);
            fault("may off`;", 7);
            fault("may off{;", 7);
            fault("may ofF;", 4);
            fault("may OFF;", 4);
            fault("may o ff;", 4);
            String[] texts = {"may 1;row 1;gain 1;", "may off or on and not at;row 1;gain base+hour*by;"};
            for (String text : texts) {
                good(text);
                for (int i = 0; i < text.length(); i++) {
                    if (text.charAt(i) >= 'a' && text.charAt(i) <= 'z') {
                        int from = 1 + Math.max(text.lastIndexOf(' ', i), Math.max(text.lastIndexOf(';', i),
                            Math.max(text.lastIndexOf('+', i), text.lastIndexOf('*', i))));
                        fault(text.substring(0, i) + 'x' + text.substring(i + 1), from);
                    }
                }
            }
        });
        sentence("NUMBERS (as many digits as stand there; more than 4 are too long)", () -> {
            value("0", 0);
            value("9", 9);
            value("999", 999);
            value("9999-9998", 1);
            value("0000", 0);
            value("0042", 42);
            value("1234-1000", 234);
            fault("may 10000;", 4);
            fault("may 00000;", 4);
            fault("may 1 2345;", 6);
            fault("may 1/;", 5);
            fault("may 1:;", 5);
        });
        sentence("SIGNS ( ) ; + - * < = ; blanks (32, 10) may stand between", () -> {
            good("\n may\n\n1 \n;\nrow(1)*(2)+3 -4<5;gain 1=2\n;\n ");
            good("may(1);row 1;gain 1;");
            good("may 1;row 1;gain -1;");
            for (int b = 0; b < 256; b++) {
                boolean letter = b >= 'a' && b <= 'z';
                boolean digit = b >= '0' && b <= '9';
                boolean blank = b == 32 || b == 10;
                if (!letter && !digit && !blank) {
                    String text = "may 1;row 1;gain 1;" + (char) b;
                    due("byte " + b + " behind a text", read(new OneForOne(), text), -119);
                } else if (!letter && !digit) {
                    due("byte " + b + " behind a text", read(new OneForOne(), "may 1;row 1;gain 1;" + (char) b), 1);
                }
            }
            fault("may 1\r;", 5);
            fault("may\t1;", 3);
            fault("may 1;row 1;gain 1\u000b;", 18);
        });
    }

    private static void termsOfTheGrammar() {
        in("Terms");
        sentence("TEXT: may E ; row E ; gain E ;", () -> {
            good("may 1;row 1;gain 1;");
            fault("row 1;may 1;gain 1;", 0);
            fault("may 1;gain 1;row 1;", 6);
            fault("may 1;row 1;row 1;", 12);
            fault("may 1;row 1;gain 1;;", 19);
            fault("may 1;row 1;gain 1;may 1;", 19);
            fault("may;row 1;gain 1;", 3);
            fault("may 1 row 1;gain 1;", 6);
            fault("may 1;row 1 gain 1;", 12);
            fault("1;", 0);
            fault(";", 0);
        });
        sentence("E: AND { or AND }", () -> {
            value("0 or 0 or 5", 1);
            value("0 or 0 or 0", 0);
            value("1 or 0 and 0", 1);
            value("0 and 0 or 1", 1);
            value("0 and (0 or 1)", 0);
            fault("may 1 or;", 8);
            fault("may or 1;", 4);
            fault("may 1 or or 1;", 9);
        });
        sentence("AND: NOT { and NOT }", () -> {
            value("1 and 2 and 3", 1);
            value("1 and 2 and 0", 0);
            value("0 and 2 and 3", 0);
            value("1 and 0 and 3", 0);
            value("not 0 and 0", 0);
            value("1 and not 0", 1);
            fault("may 1 and;", 9);
            fault("may and 1;", 4);
        });
        sentence("NOT: not NOT, or SUM, perhaps < or = and a SUM", () -> {
            value("not 0", 1);
            value("not 7", 0);
            value("not not 7", 1);
            value("not 3 = 4", 1);
            value("not 3 < 4", 0);
            value("1+2 < 2*2", 1);
            value("2*2 = 1+3", 1);
            value("4", 4);
            fault("may 1<2<3;", 7);
            fault("may 1=2=3;", 7);
            fault("may 1<2=3;", 7);
            fault("may 1=2<3;", 7);
            fault("may 1<not 2;", 6);
            fault("may 1=not 2;", 6);
            fault("may 1<;", 6);
            fault("may <1;", 4);
            fault("may 1==2;", 6);
            fault("may not;", 7);
        });
        sentence("SUM: TERM { + or - TERM }", () -> {
            value("1+2+3", 6);
            value("9-2-3", 4);
            value("9-2+3", 10);
            value("9+2-3", 8);
            value("9-(2-3)", 10);
            fault("may 1+;", 6);
            fault("may 1-;", 6);
            fault("may +1;", 4);
            fault("may 1++1;", 6);
            fault("may 1+not 1;", 6);
            fault("may 1-not 1;", 6);
        });
        sentence("TERM: ONE { * ONE }", () -> {
            value("2*3*4", 24);
            value("2+3*4", 14);
            value("2*3+4", 10);
            value("2*-3+7", 1);
            fault("may 2*;", 6);
            fault("may *2;", 4);
            fault("may 2**2;", 6);
            fault("may 2*not 1;", 6);
        });
        sentence("ONE: a NUMBER, a NAME, - ONE, ( E )", () -> {
            value("7", 7);
            value("base", 40);
            value("--7", 7);
            value("9+-7", 2);
            value("9--7", 16);
            value("-7+9", 2);
            value("-2*-3", 6);
            value("(1 or 0)+2", 3);
            value("((7))", 7);
            value("-(3-9)", 6);
            fault("may ();", 5);
            fault("may (1;", 6);
            fault("may 1);", 5);
            fault("may (1));", 7);
            fault("may (;", 5);
            fault("may );", 4);
            fault("may -;", 5);
            fault("may -not 1;", 5);
            fault("may 1 1;", 6);
            fault("may off off;", 8);
            fault("may 1 (1);", 6);
            fault("may (1)(1);", 7);
        });
        sentence("NAMES: off on at base hour by", () -> {
            value("off", 1);
            value("on", 0);
            value("at", 2);
            value("base", 40);
            value("hour", 9);
            value("by", 7);
            fault("may may;", 4);
            fault("may row;", 4);
            fault("may gain;", 4);
            fault("may or;", 4);
            fault("off 1;", 0);
            fault("base 1;", 0);
        });
        sentence("An E is an int (32 bits, wrapping): of or, and, not, <, = 1 or 0 (what is not 0 is true)", () -> {
            value("9999*9999*21<0", 0);
            value("9999*9999*22<0", 1);
            value("8192*8192*32<0", 1);
            value("8192*8192*64", 0);
            value("8192*8192*32-1<0", 0);
            value("-(8192*8192*32)<0", 1);
            value("8192*8192*32=-(8192*8192*32)", 1);
            value("8192*8192*31+8192*8192<0", 1);
            value("0-8192*8192*32<0", 1);
            value("0-8192*8192*32-1<0", 0);
            value("8192*8192*64+5", 5);
            value("(5 or 0)+(7 and 3)+(not 0)+(3<4)+(4=4)", 5);
            value("(0 or 0)+(7 and 0)+(not 9)+(4<4)+(4=3)+(4<3)", 0);
            value("-1 and -2", 1);
            value("-1 or 0", 1);
            value("not -1", 0);
            value("-2<-1", 1);
            value("-1<-2", 0);
            value("-1=-1", 1);
            value("5", 5);
        });
    }

    private static void termsOfFaults() {
        in("Terms");
        sentence("FAULT: the place of the first byte of the first TOKEN that can't stand there (the text's size, if it ends too early)", () -> {
            fault("", 0);
            fault(" \n ", 3);
            fault("may", 3);
            fault("may  ", 5);
            fault("may 1", 5);
            fault("may 1;", 6);
            fault("may 1;row 1;gain", 16);
            fault("may 1;row 1;gain 1", 18);
            fault("may 1;row 1;gain 1 \n", 20);
            fault("may (", 5);
            fault("may (1", 6);
            fault("may 1 +", 7);
            fault("may not", 7);
            fault("may 1 <", 7);
            fault("gain 1;", 0);
            fault("  gain 1;", 2);
            fault("may 1;\n gain 1;", 8);
            fault("may 1 hour;", 6);
            fault("may 1 2 #;", 6);
            fault("may 1 77;", 6);
            fault("may ; ;", 4);
            fault("may 1;row 1;gain 1; base", 20);
        });
        sentence("also of a byte that begins none", () -> {
            fault("#", 0);
            fault("may #;", 4);
            fault("may 1#;", 5);
            fault("may 1;row 1;gain 1;#", 19);
            fault("may 1;row 1;gain 1;\0", 19);
            fault("may 1;row 1;gain 1;\u00ff", 19);
            fault("may 1>0;", 5);
            fault("may 1 #", 6);
        });
        sentence("of a WORD that is neither KEY nor NAME", () -> {
            fault("may x;", 4);
            fault("may 1;rows 1;", 6);
            fault("may 1;ro 1;", 6);
            fault("ma 1;", 0);
            fault("may 1 ors 1;", 6);
            fault("may 1 an 1;", 6);
            fault("may nots 1;", 4);
            fault("may hours;", 4);
            fault("may baseb;", 4);
            fault("may bas;", 4);
            fault("may b;", 4);
            fault("may gainbyhour;", 4);
            fault("may 1;row 1;gain 1;x", 19);
        });
        sentence("a NUMBER that is too long", () -> {
            fault("may 12345;", 4);
            fault("may 1+12345;", 6);
            fault("may 1;row 1;gain 00000;", 17);
            fault("may 1;row 1;gain 1;12345", 19);
            fault("may 1 12345;", 6);
        });
        sentence("a ( , a not, a - ahead of a ONE while 5 of these are open", () -> {
            good("may (((((1)))));row (((((1)))));gain (((((1)))));");
            good("may -----1;row -----1;gain -----1;");
            good("may not not not not not 1;row not not not not not 1;gain 1;");
            good("may not not(-(1));row not(-(-1));gain 1;");
            fault("may ((((((1))))));", 9);
            fault("may ------1;", 9);
            fault("may not not not not not not 1;", 24);
            fault("may (((((-1)))));", 9);
            fault("may (((((not 1)))));", 9);
            fault("may -----(1);", 9);
            fault("may not not not not not -1;", 24);
            fault("may not not not not not(1);", 23);
            fault("may not(-(-(-1)));", 11);
            fault("may 1;row ((((((1))))));", 15);
            fault("may 1;row 1;gain ------1;", 22);
            fault("may ((((((", 9);
            fault("may (((((1+(", 11);
            good("may (((((1-1-1)))));row 1;gain 1;");
            good("may -----1-1-1;row 1;gain 1;");
        });
        sentence("(a ( till its ) , not and - till what they belong to ends)", () -> {
            good("may ((((1))))+((((1))))*((((1))))<(((((1)))));row 1;gain 1;");
            good("may -1+-1*-1--1-(-1)-(-(-1)) <-1 or -1 and -1;row 1;gain 1;");
            good("may not 1 or not 1 and not 1 or not 1 and not 1 or not 1;row 1;gain 1;");
            good("may -(((1)))-(((((1)))));row 1;gain 1;");
            good("may ((((-1+(1)))));row 1;gain 1;");
            good("may ((((-1)+-1)));row (((((1)+-1))));gain 1;");
            fault("may (((((1+-1)))));", 11);
            good("may not ((((1))))or(((((1)))));row 1;gain 1;");
            fault("may not ((((1)))) + (((((1)))));", 24);
            fault("may not 1<(((((1)))));", 14);
            fault("may not 1+(((((1)))));", 14);
            fault("may not 1*(((((1)))));", 14);
            good("may not 1<((((1))));row 1;gain 1;");
            fault("may -(((((1)))));", 9);
            good("may -1*(((((1)))));row 1;gain 1;");
            fault("may not not not not 1=-(1);", 23);
            good("may not not not not 1=-1;row not not not not 1=(1);gain 1;");
            fault("may (1+((((1)+(1)))))+((((((1))))));", 27);
        });
        sentence("a WORD that is neither KEY nor NAME, a NUMBER that is too long, a ( , a not, a - ahead of a ONE", () -> {
            OneForOne x = new OneForOne();
            due("a fault", read(x, "may (((((("), -109);
            due("what was open doesn't stay open", read(x, "may (((((1)))));row 1;gain 1;"), 1);
            due("a fault", read(x, "may 1+12345"), -106);
            due("the next text", read(x, "may 1;row 12;gain 1;"), 2);
            x.force(2);
            due("asks(1, 0, 1, 0)", x.asks(1, 0, 1, 0), 12);
        });
    }

    private static void termsOfTexts() {
        in("Terms");
        sentence("TEXTS are numbered from 0 on, 6 at most", () -> {
            OneForOne x = new OneForOne();
            due("count(4) at first", x.count(4), 1);
            for (int t = 1; t < 6; t++) {
                due("text()", read(x, "may 1;row 1" + t + ";gain 1;"), t);
            }
            due("text(), a seventh", read(x, "may 1;row 1;gain 1;"), -4);
            due("count(4)", x.count(4), 6);
            for (int t = 1; t < 6; t++) {
                x.force(t);
                due("row of TEXT " + t, x.asks(1, 0, 1, 0), 10 + t);
            }
            due("force(6)", x.force(6), -2);
            due("count(5)", x.count(5), 5);
        });
        sentence("TEXT 0, at first, and THE LAW: may 1 ; row base ; gain base * (hour < by + 1) ;", () -> {
            OneForOne x = new OneForOne();
            x.person(0, 41, 530, 0);
            x.person(0, 1, 9999, 0);
            due("count(5)", x.count(5), 0);
            due("asks(0, 0, 1, 3)", x.asks(0, 0, 1, 3), 1);
            due("asks(1, 0, 3, 0)", x.asks(1, 0, 3, 0), 3);
            due("asks(2, 0, 0, 0)", x.asks(2, 0, 0, 0), 30);
            due("asks(2, 0, 5, 0), BY 5", x.asks(2, 0, 5, 0), 30);
            due("asks(2, 0, 6, 0), BY 5", x.asks(2, 0, 6, 0), 0);
            due("asks(2, 1, 99, 0), BY 99", x.asks(2, 1, 99, 0), 99);
            due("asks(2, 1, 100, 0), BY 99", x.asks(2, 1, 100, 0), 0);
        });
        sentence("may of a SWAP: off, on: their numbers; at: the LANDING; the others 0", () -> {
            OneForOne x = crowd(6);
            rule(x, "off*100+on*10+at-352", "1", "1");
            due("asks(0, 3, 5, 2, ..)", x.asks(0, 3, 5, 2), 0);
            due("asks(0, 5, 3, 2, ..)", x.asks(0, 5, 3, 2), 1);
            due("asks(0, 3, 5, 3, ..)", x.asks(0, 3, 5, 3), 1);
            x.put(3, 4);
            x.put(5, 2);
            x.moor(2);
            due("may(3, 5) at 2", x.may(3, 5), 0);
            x.moor(3);
            x.put(5, 3);
            due("may(3, 5) at 3", x.may(3, 5), 1);
            for (String other : new String[] {"base", "hour", "by"}) {
                rule(x, other, "1", "1");
                due("may " + other, x.asks(0, 3, 5, 3), 0);
            }
        });
        sentence("row, how long it is to ROW (1 .. 99, else the bound)", () -> {
            String[] row = {"0", "1", "2", "98", "99", "100", "9999", "-1", "-9999", "8192*8192*32", "8192*8192*32-1"};
            int[] is = {1, 1, 2, 98, 99, 99, 99, 1, 1, 1, 99};
            for (int k = 0; k < row.length; k++) {
                OneForOne x = new OneForOne();
                rule(x, "1", row[k], "1");
                due("asks(1, 0, 1, 0) by row " + row[k], x.asks(1, 0, 1, 0), is[k]);
                due("way(0, 1) by row " + row[k], x.way(0, 1), is[k]);
                x.move(0, 1, 0);
                due("run(1, 0) by row " + row[k], x.run(1, 0), is[k]);
            }
        });
        sentence("off: the LANDING from which, on: to which; base: HOURS; the others 0", () -> {
            OneForOne x = new OneForOne();
            rule(x, "1", "off*10+on*4+base", "1");
            due("asks(1, 3, 1, 0)", x.asks(1, 3, 1, 0), 36);
            due("asks(1, 1, 3, 0)", x.asks(1, 1, 3, 0), 24);
            x.far(1, 3, 9);
            due("asks(1, 1, 3, 0), HOURS 9", x.asks(1, 1, 3, 0), 31);
            for (String other : new String[] {"at", "hour", "by"}) {
                rule(x, "1", "50+" + other, "1");
                due("row 50+" + other, x.asks(1, 2, 3, 3), 50);
            }
            OneForOne y = ferry();
            rule(y, "1", "1+20*(off<on)", "1");
            y.move(0, 2, 0);
            y.move(0, 1, 0);
            due("run(1, 0), up from 0 to 2", y.run(1, 0), 21);
            due("run(2, 0), down from 2 to 1", y.run(2, 0), 22);
            due("soonest(1), up to 2", y.soonest(1), 21);
            due("all(0), up to 2, down to 0", y.all(0), 22);
            due("bound(), up to 2, down to 0", y.bound(), 22);
            int seed = seedOf(2, 4);
            due("drawn(" + seed + ", 1, 1), up from 0 to 2", y.drawn(seed, 1, 1), 21);
            y.moor(3);
            due("soonest(1), down to 0, up to 2", y.soonest(1), 22);
            due("drawn(0, 1, 1), down from 3 to 1", y.drawn(0, 1, 1), 1);
        });
        sentence("gain, what it is worth that one is at TO at an hour (0 .. 999, else the bound)", () -> {
            String[] gain = {"0", "1", "998", "999", "1000", "9999", "-1", "-9999", "8192*8192*32", "8192*8192*32-1"};
            int[] is = {0, 1, 998, 999, 999, 999, 0, 0, 0, 999};
            for (int k = 0; k < gain.length; k++) {
                OneForOne x = crowd(1);
                rule(x, "1", "1", gain[k]);
                due("asks(2, 0, 0, 0) by gain " + gain[k], x.asks(2, 0, 0, 0), is[k]);
                due("best(0, 0) by gain " + gain[k], x.best(0, 0), is[k]);
                x.move(2, 0, 0);
                due("run(1, 3) by gain " + gain[k], x.run(1, 3), is[k]);
            }
        });
        sentence("off: the number; on 0; at: TO; base: WORTH; hour; by: BY", () -> {
            OneForOne x = crowd(5);
            x.person(0, 3, 9876, 0);
            String[] name = {"off", "on", "at", "base", "hour", "by", "on+7"};
            int[] is = {5, 0, 3, 76, 400, 98, 7};
            for (int k = 0; k < 5; k++) {
                rule(x, "1", "1", name[k]);
                due("gain " + name[k], x.asks(2, 5, 400, 3), is[k]);
            }
            value("by", 7);
            value("on+7", 7);
        });
    }

    // ---- terms: moves

    private static void termsOfMoves() {
        in("Terms");
        sentence("MOVES are numbered from 0 on, 16 at most", () -> {
            OneForOne x = new OneForOne();
            for (int k = 0; k < 16; k++) {
                due("move(2, 1, 0)", x.move(2, 1, 0), k);
            }
            due("move(2, 1, 0), the seventeenth", x.move(2, 1, 0), -4);
            due("count(3)", x.count(3), 16);
            due("run(16, 0), all are done", x.run(16, 0), 16);
        });
        sentence("0 ROW to a LANDING (it MAY not BE, if THE BOAT is there)", () -> {
            for (int l = 0; l < 4; l++) {
                OneForOne x = new OneForOne();
                x.moor(l);
                x.move(0, l, 0);
                due("judge(), THE BOAT is at " + l, x.judge(), 0);
                due("run(1, 0), no hour passes", x.run(1, 0), 0);
                x.clear();
                x.move(0, 3 - l, 0);
                due("judge(), THE BOAT isn't at " + (3 - l), x.judge(), -1);
                due("run(1, 1)", x.run(1, 1), 3 - l);
            }
        });
        sentence("1 a SWAP (no hour passes)", () -> {
            OneForOne x = pair(0, 0);
            rule(x, "1", "99", "1");
            x.move(1, 0, 1);
            due("judge()", x.judge(), -1);
            due("run(1, 0)", x.run(1, 0), 0);
            due("where(1, 0)", x.where(1, 0), 0);
        });
        sentence("2 WAIT so many hours", () -> {
            OneForOne x = new OneForOne();
            x.move(2, 0, 0);
            x.move(2, 99, 0);
            x.move(2, 1, 0);
            due("judge(), a WAIT always MAY BE, of no hours, too", x.judge(), -1);
            due("run(1, 0)", x.run(1, 0), 0);
            due("run(2, 0)", x.run(2, 0), 99);
            due("run(3, 0)", x.run(3, 0), 100);
            due("run(3, 1)", x.run(3, 1), 0);
        });
        sentence("They are done one behind the other, from hour 0 on, as all is told; those that MAY not BE are left out", () -> {
            OneForOne x = ferry();
            due("move(1, 0, 2), 2 isn't there", x.move(1, 0, 2), 0);
            due("move(0, 2, 0)", x.move(0, 2, 0), 1);
            due("move(0, 2, 0) again", x.move(0, 2, 0), 2);
            due("move(1, 0, 2)", x.move(1, 0, 2), 3);
            due("move(1, 0, 2) again", x.move(1, 0, 2), 4);
            due("move(0, 0, 0)", x.move(0, 0, 0), 5);
            int[] hours = {0, 0, 2, 2, 2, 2, 4};
            int[] at2 = {2, 2, 2, 2, 4, 4, 4};
            for (int n = 0; n < 7; n++) {
                due("run(" + n + ", 0)", x.run(n, 0), hours[n]);
                due("where(" + n + ", 2)", x.where(n, 2), at2[n]);
            }
            x.moor(2);
            due("judge(), as all is told now", x.judge(), 1);
            due("where(1, 2)", x.where(1, 2), 4);
            due("run(6, 0)", x.run(6, 0), 2);
            x.far(0, 2, 7);
            due("run(6, 0), HOURS 7", x.run(6, 0), 7);
            due("run(0, 0), from hour 0 on", x.run(0, 0), 0);
        });
    }

    // ---- terms: ways

    private static void termsOfWays() {
        in("Terms");
        sentence("WAYS on from how all is told", () -> {
            OneForOne x = ferry();
            x.image();
            due("all(0)", x.all(0), 4);
            x.far(0, 2, 1);
            due("all(0) behind far()", x.all(0), 2);
            x.moor(2);
            due("all(0) behind moor()", x.all(0), 2);
            due("soonest(2)", x.soonest(2), 1);
            rule(x, "1", "base+9", "5");
            due("all(0) behind force()", x.all(0), 20);
            due("best(400, 0), two at TO", x.best(400, 0), 10);
            x.person(4, 40, 0, 0);
            due("never(1) behind person()", x.never(1), 24);
            x.foe(1, 3, 1);
            due("all(0) behind foe()", x.all(0), -1);
            due("leave(0)", x.leave(0), -1);
            x.foe(3, 1, 0);
            due("all(0) behind foe()", x.all(0), 20);
            x.put(1, 2);
            due("all(0) behind put()", x.all(0), -1);
            due("never(0)", x.never(0), 4);
            x.back();
            due("all(0) behind back()", x.all(0), 4);
            due("never(1)", x.never(1), 24);
            x.sheet(0, 2, 4);
            x.cell(0, 1, 13);
            x.peopleBy(0, 2, 0, 1);
            due("all(0) behind peopleBy()", x.all(0), -1);
            due("never(1)", x.never(1), 96);
            x.move(0, 2, 0);
            x.clear();
            due("gap() behind move(), clear()", x.gap(), -1);
        });
        sentence("ROWS to other LANDINGS and SWAPS that MAY BE, as many as one likes", () -> {
            due("all(2) of five", longFerry().all(2), 5);
            due("all(1) of five", longFerry().all(1), 6);
            OneForOne x = ferry();
            due("all(0)", x.all(0), 4);
            rule(x, "not(off=0 and on=1 and at=0)", "base", "1");
            due("all(0), the first SWAP MAY not BE: 2 comes first", x.all(0), 6);
            rule(x, "not(off=0)", "base", "1");
            due("all(0), no SWAP MAY BE", x.all(0), -1);
            OneForOne y = pair(0, 0);
            rule(y, "0", "base", "1");
            due("never(1), rows to others alone", y.never(1), 4);
            OneForOne z = longFerry();
            due("never(1) of five in five places: 5! times 4", z.never(1), 480);
        });
        sentence("a STATE: where all PEOPLE and THE BOAT are", () -> {
            due("never(1) of nobody: where THE BOAT is", new OneForOne().never(1), 4);
            due("never(1) of one alone", crowd(1).never(1), 4);
            OneForOne x = pair(0, 0);
            due("never(1) of two: who of them is at 0", x.never(1), 8);
            x.person(0, 0, 0, 0);
            due("never(1) of three: who of them is ABOARD", x.never(1), 12);
            OneForOne full = new OneForOne();
            full.person(0, 40, 0, 0);
            full.person(0, 40, 0, 0);
            for (int l = 0; l < 4; l++) {
                full.person(0, 10 * l, 0, 0);
            }
            due("never(1) of six: 6! / 2! times 4", full.never(1), 1440);
        });
        sentence("its hours (swaps, rowings): the least with which one comes to it, 400 at most", () -> {
            for (int row = 79; row < 84; row++) {
                OneForOne x = longFerry();
                rule(x, "1", Integer.toString(row), "1");
                due("all(0) by row " + row, x.all(0), row <= 80 ? 5 * row : -1);
                due("all(1), 6 swaps, by row " + row, x.all(1), 6);
                due("all(2), 5 rowings, by row " + row, x.all(2), 5);
            }
            OneForOne y = shuttle();
            rule(y, "1", "99", "1");
            due("all(0)", y.all(0), 99);
            OneForOne z = chain(6, 3, "80");
            due("all(0), just 400 hours", z.all(0), 400);
            due("soonest(4), just 400 hours", z.soonest(4), 400);
            due("best(399, 0)", z.best(399, 0), 0);
            due("best(400, 0)", z.best(400, 0), 7);
            due("best(400, 1)", z.best(400, 1), 400);
            due("never(0)", z.never(0), 0);
            due("never(1)", z.never(1), 21);
            due("gap()", z.gap(), 320);
            due("laws()", z.laws(), 3);
            due("join(2, 3)", z.join(2, 3), 400);
            OneForOne a = chain(6, 3, "81-2*off");
            due("all(0), 401 hours", a.all(0), -1);
            due("soonest(4), 401 hours", a.soonest(4), -1);
            due("best(400, 0)", a.best(400, 0), 0);
            due("best(400, 1)", a.best(400, 1), 0);
            due("never(0)", a.never(0), 16);
            due("never(1)", a.never(1), 17);
            due("gap()", a.gap(), -1);
            due("laws()", a.laws(), 1);
            due("join(2, 3)", a.join(2, 3), -1);
            due("all(1)", a.all(1), 5);
            due("all(2)", a.all(2), 5);
            due("help(1), in 400 hours", chain(5, 3, "80").help(1), 400);
            due("help(1), in 401 hours", chain(5, 3, "81-2*off").help(1), -1);
            due("leave(1), in 400 hours", chain(6, 0, "80").leave(1), 400);
            due("leave(1), in 401 hours", chain(6, 0, "81-2*off").leave(1), -1);
        });
        sentence("ALL THERE: each is THERE", () -> {
            due("all(0) of nobody", new OneForOne().all(0), 0);
            due("all(0) of six at TO", crowd(6).all(0), 0);
            for (int p = 0; p < 6; p++) {
                OneForOne x = crowd(6);
                x.put(p, 1);
                due("all(0), only " + p + " isn't", x.all(0), -1);
                due("never(0)", x.never(0), 1 << p);
            }
            OneForOne y = new OneForOne();
            y.person(3, 11, 0, 0);
            y.person(4, 42, 0, 0);
            y.person(3, 23, 0, 0);
            due("all(0) of PAID and KNITTING anywhere", y.all(0), 0);
        });
    }

    // ---- terms: the bound

    private static void termsOfTheBound() {
        in("Terms");
        sentence("THE BOUND: of all who aren't THERE the most", () -> {
            OneForOne x = new OneForOne();
            int[] ways = {11, 3, 2, 22, 33, 1};
            int[] most = {0, 3, 3, 3, 3, 3};
            for (int p = 0; p < 6; p++) {
                x.person(0, ways[p], 0, 0);
                due("bound() of " + (p + 1), x.bound(), most[p]);
            }
            x.put(1, 3);
            due("bound(), 1 is THERE: 2 from 0 to 2", x.bound(), 2);
            x.put(2, 2);
            due("bound(), 2 is THERE: 5 from 0 to 1", x.bound(), 1);
            x.put(5, 1);
            due("bound(), ALL are THERE", x.bound(), 0);
            for (int p = 0; p < 6; p++) {
                OneForOne y = new OneForOne();
                for (int q = 0; q < 6; q++) {
                    y.person(q == p ? 0 : q % 2 == 0 ? 3 : 4, q == p ? 30 : 12, 0, 0);
                }
                due("bound(), only " + p + " is neither PAID nor KNITTING", y.bound(), 6);
            }
        });
        sentence("the shortest way (by other LANDINGS, too, by row) from THE BOAT to where one is (0, if ABOARD), and from there to TO", () -> {
            OneForOne x = new OneForOne();
            x.person(0, 21, 0, 0);
            due("bound(): 0 to 2, 2 to 1", x.bound(), 3);
            x.moor(3);
            due("bound(): 3 to 2, 2 to 1", x.bound(), 2);
            x.moor(2);
            due("bound(): 2 to 1", x.bound(), 1);
            x.put(0, 4);
            due("bound(), ABOARD: 2 to 1", x.bound(), 1);
            x.moor(1);
            due("bound(), ABOARD where TO is", x.bound(), 0);
            x.moor(3);
            x.far(3, 1, 9);
            due("bound(), ABOARD: 3 by 2 to 1", x.bound(), 2);
            x.far(2, 1, 9);
            x.far(3, 0, 1);
            due("bound(), ABOARD: 3 by 0 to 1", x.bound(), 2);
            rule(x, "1", "1+9*(off<on)", "1");
            due("bound(), ABOARD: down from 3 to 1", x.bound(), 1);
            x.moor(0);
            due("bound(), ABOARD: up from 0 to 1 (by 3: 11)", x.bound(), 10);
            x.put(0, 2);
            due("bound(): up to 2, down to 1", x.bound(), 11);
        });
    }

    // ---- terms: lots

    private static void termsOfLots() {
        in("Terms");
        sentence("DRAWN by a SEED (0 .. 99999)", () -> {
            OneForOne x = crowd(1);
            due("drawn(0, 0, 0)", x.drawn(0, 0, 0), 1);
            due("drawn(99999, 0, 0)", x.drawn(99999, 0, 0), 1);
            due("drawn(-1, 0, 0)", x.drawn(-1, 0, 0), -2);
            due("drawn(100000, 0, 0)", x.drawn(100000, 0, 0), -2);
            due("chance(0, 0, 100, 0)", x.chance(0, 0, 100, 0), 1);
            due("chance(0, 99999, 100, 0)", x.chance(0, 99999, 100, 0), 1);
            due("chance(0, -1, 100, 0)", x.chance(0, -1, 100, 0), NO);
            due("chance(0, 100000, 100, 0)", x.chance(0, 100000, 100, 0), NO);
        });
        sentence("the first is (SEED and 1) times 48271 modulo 2147483647, each further one the last times 48271 modulo 2147483647", () -> {
            for (int seed : new int[] {0, 1, 2, 44487, 44488, 44489, 99998, 99999}) {
                OneForOne x = new OneForOne();
                long lot = seed + 1;
                int at = 0;
                int hours = 0;
                for (int n = 1; n < 41; n++) {
                    lot = lot * 48271 % 2147483647L;
                    int l = (int) (lot % 3);
                    l += l < at ? 0 : 1;
                    hours += Math.abs(l - at);
                    at = l;
                    due("drawn(" + seed + ", " + n + ", 2)", x.drawn(seed, n, 2), at);
                    due("drawn(" + seed + ", " + n + ", 1)", x.drawn(seed, n, 1), hours);
                }
            }
            OneForOne y = new OneForOne();
            due("drawn(0, 1, 2): 48271, 1 over 3", y.drawn(0, 1, 2), 2);
            due("drawn(1, 1, 2): 96542, 2 over 3", y.drawn(1, 1, 2), 3);
            due("drawn(2, 1, 2): 144813, 0 over 3", y.drawn(2, 1, 2), 1);
            due("drawn(44487, 1, 2): 2147480248, 1 over 3", y.drawn(44487, 1, 2), 2);
            due("drawn(44488, 1, 2): 2147528519 less 2147483647, 1 over 3", y.drawn(44488, 1, 2), 2);
        });
        sentence("LOT modulo (all SWAPS that MAY BE, and 3): of these, by the one OFF, then the one ON, then ROWS to other LANDINGS by numbers, the one with that number (from 0)", () -> {
            OneForOne x = new OneForOne();
            for (int p = 0; p < 6; p++) {
                x.person(3, p % 2 == 0 ? 40 : 10, 0, 0);
            }
            x.moor(1);
            int[] off = {0, 0, 0, 2, 2, 2, 4, 4, 4};
            int[] on = {1, 3, 5, 1, 3, 5, 1, 3, 5};
            int[] rows = {0, 2, 3};
            boolean[] seen = new boolean[12];
            for (int seed = 0; seed < 60; seed++) {
                int number = (int) ((seed + 1) * 48271L % 2147483647 % 12);
                seen[number] = true;
                x.drawn(seed, 1, 0);
                due("drawn(" + seed + ", 1, 2), number " + number, x.drawn(seed, 1, 2), number < 9 ? 1 : rows[number - 9]);
                due("drawn(" + seed + ", 1, 1), number " + number, x.drawn(seed, 1, 1), number < 9 ? 0 : Math.abs(1 - rows[number - 9]));
            }
            for (int number = 0; number < 12; number++) {
                due("number " + number + " was drawn", seen[number] ? 1 : 0, 1);
            }
            // Put OFF are 1 and 3, taken ON are 0, 2 and 4; then THE BOAT goes to 1, 2, 3.
            int[] offOf = {1, 1, 1, 3, 3, 3};
            int[] onOf = {0, 2, 4, 0, 2, 4};
            for (int number = 0; number < 9; number++) {
                int seed = seedOf(number, 9);
                OneForOne one = crowd(6);
                one.put(1, 4);
                one.put(3, 4);
                one.put(5, 1);
                int there = number < 6 ? 21 & ~(1 << onOf[number]) | 1 << offOf[number] : 21;
                due("drawn(" + seed + ", 1, 0), number " + number + " of 9", one.drawn(seed, 1, 0), there);
                due("drawn(" + seed + ", 1, 2), number " + number + " of 9", one.drawn(seed, 1, 2), Math.max(0, number - 5));
            }
            OneForOne y = new OneForOne();
            for (int p = 0; p < 6; p++) {
                y.person(0, p % 2 == 0 ? 41 : 10, 0, 0);
            }
            y.moor(1);
            for (int seed = 0; seed < 60; seed++) {
                int number = (int) ((seed + 1) * 48271L % 2147483647 % 12);
                int there = number < 9 ? 1 << off[number] : 0;
                due("drawn(" + seed + ", 1, 0), number " + number, y.drawn(seed, 1, 0), there);
            }
            OneForOne z = new OneForOne();
            for (int p = 0; p < 6; p++) {
                z.person(0, p % 2 == 0 ? 40 : 11, 0, 0);
            }
            z.moor(1);
            for (int seed = 0; seed < 60; seed++) {
                int number = (int) ((seed + 1) * 48271L % 2147483647 % 12);
                int there = number < 9 ? 42 & ~(1 << on[number]) : 42;
                due("drawn(" + seed + ", 1, 0), number " + number, z.drawn(seed, 1, 0), there);
            }
        });
    }

    /** The first SEED whose first LOT is so much modulo all. */
    private static int seedOf(int number, int all) {
        for (int seed = 0; seed < 1000; seed++) {
            if ((seed + 1) * 48271L % 2147483647 % all == number) {
                return seed;
            }
        }
        return -1;
    }

    // ---- terms: images, sheets

    private static void termsOfImagesAndSheets() {
        in("Terms");
        sentence("AN IMAGE keeps where all and THE BOAT are, FOES, HOURS, THE LAW (MOVES stay)", () -> {
            OneForOne x = crowd(6);
            read(x, "may 1;row 7;gain 1;");
            x.move(2, 1, 0);
            x.image();
            for (int p = 0; p < 6; p++) {
                x.put(p, 1 + p % 3);
                for (int q = 0; q < p; q++) {
                    x.foe(p, q, 1);
                }
            }
            x.moor(3);
            for (int u = 0; u < 4; u++) {
                for (int v = 0; v < u; v++) {
                    x.far(u, v, 8);
                }
            }
            x.force(1);
            x.move(2, 2, 0);
            read(x, "may 1;row 9;gain 1;");
            x.feed(1, 32, 0, 0, 0, 0);
            due("back()", x.back(), 6);
            due("THE LAW", x.count(5), 0);
            due("THE BOAT", x.count(0), 0);
            due("MOVES stay", x.count(3), 2);
            due("run(2, 0), they do", x.run(2, 0), 3);
            due("TEXTS stay", x.count(4), 3);
            due("THE TAPE stays", x.count(6), 1);
            for (int p = 0; p < 6; p++) {
                due("where " + p + " is", x.told(p, 1), 0);
                due("FOES of " + p, x.told(p, 6), 0);
            }
            for (int u = 0; u < 4; u++) {
                for (int v = 0; v < 4; v++) {
                    if (u != v) {
                        due("HOURS " + u + " to " + v, x.asks(1, u, v, 0), Math.abs(u - v));
                    }
                }
            }
        });
        sentence("SHEETS 0 .. 3 are rows of numbers, or missing (as all are at first): of sort 0 bytes, 1 shorts, 2 ints, 40 at most", () -> {
            OneForOne x = new OneForOne();
            for (int s = 0; s < 4; s++) {
                due("cell(" + s + ", 0, 0) at first", x.cell(s, 0, 0), -11);
                due("peopleBy(" + s + ", ..) at first", x.peopleBy(s, 0, 0, 0), -11);
                due("copy(" + s + ", ..) at first", x.copy(s, 0, s, 0, 0), -11);
            }
            for (int s = 0; s < 4; s++) {
                int sort = s % 3;
                due("sheet(" + s + ", " + sort + ", 40)", x.sheet(s, sort, 40), 1);
                due("cell(" + s + ", 39, 1)", x.cell(s, 39, 1), 1);
                due("cell(" + s + ", 40, 1)", x.cell(s, 40, 1), -12);
                due("peopleBy(" + s + ", " + sort + ", 0, 0)", x.peopleBy(s, sort, 0, 0), 0);
                due("peopleBy of another sort", x.peopleBy(s, (sort + 1) % 3, 0, 0), -13);
                due("sheet(" + s + ", " + sort + ", 41)", x.sheet(s, sort, 41), -2);
                due("sheet(" + s + ", " + sort + ", 0)", x.sheet(s, sort, 0), 1);
                due("cell(" + s + ", 0, 1), a row of none", x.cell(s, 0, 1), -12);
                due("sheet(" + s + ", -1, 0)", x.sheet(s, -1, 0), 1);
                due("cell(" + s + ", 0, 1), missing", x.cell(s, 0, 1), -11);
            }
            due("sheet(4, 0, 1)", x.sheet(4, 0, 1), -2);
            due("sheet(-1, 0, 1)", x.sheet(-1, 0, 1), -2);
            due("sheet(0, 3, 1)", x.sheet(0, 3, 1), -2);
        });
    }

    // ---- terms: refusals

    private static void termsOfRefusals() {
        in("Terms");
        sentence("REFUSALS, of several the first one told", () -> {
            OneForOne x = new OneForOne();
            due("far(4, 0, 0): NONE, BAD", x.far(4, 0, 0), -1);
            due("far(1, 1, 10): NONE (alike), BAD", x.far(1, 1, 10), -1);
            due("foe(0, 1, 2): NONE, BAD", x.foe(0, 1, 2), -1);
            due("told(0, 7): -5, -7", x.told(0, 7), -5);
            due("put(0, 5): -5, -7", x.put(0, 5), -5);
            due("run(1, 4): -5, -7", x.run(1, 4), -5);
            due("sheet(0, 0, -1)", x.sheet(0, 0, -1), -14);
            due("sheet(4, 0, -1): BAD, -14", x.sheet(4, 0, -1), -2);
            due("sheet(0, 3, -1): BAD, -14", x.sheet(0, 3, -1), -2);
            due("cell(4, 0, 0): BAD, -11", x.cell(4, 0, 0), -2);
            due("cell(0, 40, 0): -11, -12", x.cell(0, 40, 0), -11);
            due("copy(4, 0, 0, 0, -1): BAD, -11, -12", x.copy(4, 0, 0, 0, -1), -2);
            due("copy(0, 0, 4, 0, -1): BAD, -11, -12", x.copy(0, 0, 4, 0, -1), -2);
            x.sheet(0, 0, 4);
            due("copy(0, 0, 1, 0, -1): -11, -12", x.copy(0, 0, 1, 0, -1), -11);
            due("copy(1, 0, 0, 0, 5): -11, -12", x.copy(1, 0, 0, 0, 5), -11);
            x.sheet(1, 1, 4);
            due("copy(0, 0, 1, 0, -1): -13, -12", x.copy(0, 0, 1, 0, -1), -13);
            due("copy(0, 0, 1, 0, 5): -13, -12", x.copy(0, 0, 1, 0, 5), -13);
            due("peopleBy(2, 3, 0, 0): BAD, -11", x.peopleBy(2, 3, 0, 0), -2);
            due("peopleBy(2, 0, 0, 7): BAD, -11", x.peopleBy(2, 0, 0, 7), -2);
            due("peopleBy(2, 0, 99, 1): -11, -12", x.peopleBy(2, 0, 99, 1), -11);
            due("peopleBy(1, 0, 99, 1): -13, -12", x.peopleBy(1, 0, 99, 1), -13);
            due("peopleBy(1, 0, 0, 7): BAD, -13", x.peopleBy(1, 0, 0, 7), -2);
            due("peopleBy(1, 1, 99, 7): BAD, -12", x.peopleBy(1, 1, 99, 7), -2);
            due("taken(10, 7): BAD, -12", x.taken(10, 7), -2);
            due("taken(9, 7): BAD, -11", x.taken(9, 7), -2);
            due("taken(9, 6): -11, -13", x.taken(9, 6), -11);
            due("taken(0, 7): BAD, -13", x.taken(0, 7), -2);
            OneForOne full = fullScene();
            due("feed(6, ..): BAD, FULL", full.feed(6, 0, 0, 0, 0, 0), -2);
            due("feed(5, 256, ..): BAD, FULL", full.feed(5, 256, 0, 0, 0, 0), -2);
            due("person(6, 40, 0, 0): BAD, FULL, STATE", full.person(6, 40, 0, 0), -2);
            due("person(0, 40, 0, 0): FULL, STATE", full.person(0, 40, 0, 0), -4);
            due("put(6, 4): -5, STATE", full.put(6, 4), -5);
            due("move(3, 0, 0): BAD, FULL", full.move(3, 0, 0), -2);
            due("text(): FULL, a FAULT", full.text(), -4);
            due("help(2): BAD, STATE", full.help(2), -2);
            OneForOne three = new OneForOne();
            for (int p = 0; p < 3; p++) {
                three.person(0, 40, 0, 0);
            }
            due("person(6, 40, 0, 0): BAD, STATE", three.person(6, 40, 0, 0), -2);
            due("put(3, 4): -5, STATE", three.put(3, 4), -5);
        });
        sentence("NONE there is no such thing; BAD a number is not as told; STATE as told; FULL. The host's: -11 nothing there, -12 a place outside, -13 of another sort or KIND, -14 a size below 0", () -> {
            OneForOne x = crowd(2);
            due("NONE: far(4, 0, 1)", x.far(4, 0, 1), OneForOne.NONE);
            due("BAD: moor(4)", x.moor(4), OneForOne.BAD);
            due("STATE: back()", x.back(), OneForOne.STATE);
            for (int k = 0; k < 16; k++) {
                x.move(2, 0, 0);
            }
            due("FULL: move(2, 0, 0)", x.move(2, 0, 0), OneForOne.FULL);
            due("nothing there: cell(0, 0, 0)", x.cell(0, 0, 0), -11);
            due("nothing there: taken(6, 0)", x.taken(6, 0), -11);
            x.sheet(0, 0, 1);
            due("a place outside: cell(0, 1, 0)", x.cell(0, 1, 0), -12);
            due("a place outside: taken(10, 0)", x.taken(10, 0), -12);
            due("of another sort: peopleBy(0, 1, 0, 0)", x.peopleBy(0, 1, 0, 0), -13);
            due("of another KIND: taken(4, 1)", x.taken(4, 1), -13);
            due("a size below 0: sheet(0, 0, -1)", x.sheet(0, 0, -1), -14);
        });
        sentence("(a -1 that is an answer comes behind the refusal of a number)", () -> {
            OneForOne x = stuck();
            due("all(0)", x.all(0), -1);
            due("all(3), they never are", x.all(3), -2);
            due("all(-1), they never are", x.all(-1), -2);
            due("soonest(0), never", x.soonest(0), -1);
            due("soonest(1), no such one", x.soonest(1), -5);
            due("help(2), one would help", x.help(2), -2);
            due("join(0, 0), they never are", x.join(0, 0), -5);
            x.put(0, 1);
            due("help(0), it isn't so", x.help(0), -1);
            due("help(2), it isn't so", x.help(2), -2);
            due("help(-1), it isn't so", x.help(-1), -2);
            OneForOne y = stuck();
            y.person(0, 1, 0, 0);
            y.person(0, 2, 0, 0);
            rule(y, "0", "1", "1");
            due("leave(0), by none", y.leave(0), -1);
            due("leave(2), by none", y.leave(2), -2);
            due("leave(-1), by none", y.leave(-1), -2);
            due("help(0), none", y.help(0), -1);
            due("help(2), none", y.help(2), -2);
            for (int p = 3; p < 6; p++) {
                y.person(0, 0, 0, 0);
            }
            due("help(0), there are 6", y.help(0), -3);
            due("help(2), there are 6", y.help(2), -2);
        });
        sentence("They change nothing, but where it is told", SentencesTest::refusalsChangeNothing);
    }

    /** Six people (three ABOARD), 16 MOVES, 6 TEXTS, 158 bytes on THE TAPE. */
    private static OneForOne fullScene() {
        OneForOne x = scene();
        x.person(0, 41, 111, 0);
        x.person(2, 23, 222, 1);
        for (int k = 3; k < 16; k++) {
            x.move(2, k, 0);
        }
        for (int t = 2; t < 6; t++) {
            x.feed(1, ';', 0, 0, 0, 0);
            x.text();
            tape(x, "may 1;row 8;gain 1");
        }
        tape(x, " ".repeat(158 - x.count(6)));
        return x;
    }

    /**
     * Four people (two ABOARD), two of them FOES, THE BOAT at 1, HOURS told, TEXT 1 THE LAW, three MOVES, THE TAPE with
     * what a ; makes a TEXT, AN IMAGE of two people with other HOURS, SHEETS of bytes, shorts and ints and a missing one.
     */
    private static OneForOne scene() {
        OneForOne x = new OneForOne();
        x.person(3, 41, 530, 0);
        x.person(0, 12, 940, 3);
        x.far(0, 1, 5);
        x.image();
        x.person(0, 40, 650, 1);
        x.person(1, 31, 760, 2);
        x.foe(0, 1, 1);
        x.moor(1);
        x.far(0, 1, 2);
        x.far(2, 3, 4);
        rule(x, "1", "base", "base+off");
        x.move(0, 3, 0);
        x.move(1, 0, 3);
        x.move(2, 3, 0);
        tape(x, "may 1;row 6;gain 1");
        for (int s = 0; s < 3; s++) {
            x.sheet(s, s, 4 + s);
            x.cell(s, 0, s);
            x.cell(s, 1, 11 + s);
            x.cell(s, 2, 100 + s);
            x.cell(s, 3, 5 - s);
        }
        return x;
    }

    private static void refusalsChangeNothing() {
        Supplier<OneForOne> s = SentencesTest::scene;
        refused(s, "far(4, 0, 5)", -1, x -> x.far(4, 0, 5));
        refused(s, "far(0, -1, 5)", -1, x -> x.far(0, -1, 5));
        refused(s, "far(2, 2, 5)", -1, x -> x.far(2, 2, 5));
        refused(s, "far(0, 2, 0)", -2, x -> x.far(0, 2, 0));
        refused(s, "far(0, 2, 10)", -2, x -> x.far(0, 2, 10));
        refused(s, "moor(4)", -2, x -> x.moor(4));
        refused(s, "moor(-1)", -2, x -> x.moor(-1));
        refused(s, "count(7)", -2, x -> x.count(7));
        refused(s, "feed(0, ..)", -2, x -> x.feed(0, 59, 59, 59, 59, 59));
        refused(s, "feed(6, ..)", -2, x -> x.feed(6, 59, 59, 59, 59, 59));
        refused(s, "feed(1, 256, ..)", -2, x -> x.feed(1, 256, 0, 0, 0, 0));
        refused(s, "feed(1, 59, .., -1)", -2, x -> x.feed(1, 59, 59, 59, 59, -1));
        refused(s, "feed(5, 59, .., 256)", -2, x -> x.feed(5, 59, 59, 59, 59, 256));
        refused(s, "force(2)", -2, x -> x.force(2));
        refused(s, "force(-1)", -2, x -> x.force(-1));
        refused(s, "asks(0, 4, 0, 0)", -2, x -> x.asks(0, 4, 0, 0));
        refused(s, "asks(1, 0, 0, 0)", -2, x -> x.asks(1, 0, 0, 0));
        refused(s, "asks(2, 0, 401, 0)", -2, x -> x.asks(2, 0, 401, 0));
        refused(s, "person(6, 0, 0, 0)", -2, x -> x.person(6, 0, 0, 0));
        refused(s, "person(0, 4, 0, 0)", -2, x -> x.person(0, 4, 0, 0));
        refused(s, "person(0, 0, 10000, 0)", -2, x -> x.person(0, 0, 10000, 0));
        refused(s, "person(0, 0, 0, 6)", -2, x -> x.person(0, 0, 0, 6));
        refused(s, "foe(2, 2, 1)", -1, x -> x.foe(2, 2, 1));
        refused(s, "foe(0, 4, 1)", -1, x -> x.foe(0, 4, 1));
        refused(s, "foe(0, 2, 2)", -2, x -> x.foe(0, 2, 2));
        refused(s, "foe(0, 1, -1)", -2, x -> x.foe(0, 1, -1));
        refused(s, "told(4, 0)", -5, x -> x.told(4, 0));
        refused(s, "told(0, 7)", -7, x -> x.told(0, 7));
        refused(s, "put(4, 0)", -5, x -> x.put(4, 0));
        refused(s, "put(0, 5)", -7, x -> x.put(0, 5));
        refused(s, "put(0, -1)", -7, x -> x.put(0, -1));
        refused(s, "may(4, 0)", -5, x -> x.may(4, 0));
        refused(s, "move(3, 0, 0)", -2, x -> x.move(3, 0, 0));
        refused(s, "move(0, 4, 0)", -2, x -> x.move(0, 4, 0));
        refused(s, "move(1, 6, 0)", -2, x -> x.move(1, 6, 0));
        refused(s, "move(2, 100, 0)", -2, x -> x.move(2, 100, 0));
        refused(s, "move(2, 0, 6)", -2, x -> x.move(2, 0, 6));
        refused(s, "run(4, 0)", -5, x -> x.run(4, 0));
        refused(s, "run(3, 4)", -7, x -> x.run(3, 4));
        refused(s, "where(4, 0)", -5, x -> x.where(4, 0));
        refused(s, "all(3)", -2, x -> x.all(3));
        refused(s, "soonest(4)", -5, x -> x.soonest(4));
        refused(s, "never(2)", -2, x -> x.never(2));
        refused(s, "best(401, 0)", -2, x -> x.best(401, 0));
        refused(s, "way(4, 0)", -5, x -> x.way(4, 0));
        refused(s, "help(2)", -2, x -> x.help(2));
        refused(s, "join(0, 0)", -5, x -> x.join(0, 0));
        refused(s, "join(0, 4)", -5, x -> x.join(0, 4));
        refused(s, "leave(2)", -2, x -> x.leave(2));
        refused(s, "drawn(100000, 0, 0)", -2, x -> x.drawn(100000, 0, 0));
        refused(s, "drawn(0, 41, 0)", -2, x -> x.drawn(0, 41, 0));
        refused(s, "chance(4, 0, 100, 0)", NO, x -> x.chance(4, 0, 100, 0));
        refused(s, "sheet(4, 0, 1)", -2, x -> x.sheet(4, 0, 1));
        refused(s, "sheet(0, 3, 1)", -2, x -> x.sheet(0, 3, 1));
        refused(s, "sheet(0, -2, 1)", -2, x -> x.sheet(0, -2, 1));
        refused(s, "sheet(0, 0, 41)", -2, x -> x.sheet(0, 0, 41));
        refused(s, "sheet(0, 0, -1)", -14, x -> x.sheet(0, 0, -1));
        refused(s, "cell(4, 0, 0)", -2, x -> x.cell(4, 0, 0));
        refused(s, "cell(3, 0, 1)", -11, x -> x.cell(3, 0, 1));
        refused(s, "cell(0, 4, 1)", -12, x -> x.cell(0, 4, 1));
        refused(s, "cell(0, -1, 1)", -12, x -> x.cell(0, -1, 1));
        refused(s, "copy(4, 0, 0, 0, 1)", -2, x -> x.copy(4, 0, 0, 0, 1));
        refused(s, "copy(0, 0, 3, 0, 1)", -11, x -> x.copy(0, 0, 3, 0, 1));
        refused(s, "copy(3, 0, 0, 0, 1)", -11, x -> x.copy(3, 0, 0, 0, 1));
        refused(s, "copy(0, 0, 1, 1, 1)", -13, x -> x.copy(0, 0, 1, 1, 1));
        refused(s, "copy(2, 0, 2, 3, 4)", -12, x -> x.copy(2, 0, 2, 3, 4));
        refused(s, "copy(2, 3, 2, 0, 4)", -12, x -> x.copy(2, 3, 2, 0, 4));
        refused(s, "copy(2, 0, 2, 1, -1)", -12, x -> x.copy(2, 0, 2, 1, -1));
        refused(s, "peopleBy(4, 0, 0, 1)", -2, x -> x.peopleBy(4, 0, 0, 1));
        refused(s, "peopleBy(0, 0, 0, 7)", -2, x -> x.peopleBy(0, 0, 0, 7));
        refused(s, "peopleBy(3, 0, 0, 1)", -11, x -> x.peopleBy(3, 0, 0, 1));
        refused(s, "peopleBy(0, 1, 0, 1)", -13, x -> x.peopleBy(0, 1, 0, 1));
        refused(s, "peopleBy(0, 0, 1, 1), nobody stood ahead", -12, x -> x.peopleBy(0, 0, 1, 1));
        refused(s, "taken(4, 7)", -2, x -> x.taken(4, 7));
        refused(s, "taken(10, 0)", -12, x -> x.taken(10, 0));
        refused(s, "taken(9, 0)", -11, x -> x.taken(9, 0));
        refused(s, "taken(5, 3)", -13, x -> x.taken(5, 3));
        refused(SentencesTest::crowdedScene, "person(0, 43, 0, 0), three are ABOARD", -3, x -> x.person(0, 43, 0, 0));
        refused(SentencesTest::crowdedScene, "put(1, 4), three are ABOARD", -3, x -> x.put(1, 4));
        refused(SentencesTest::fullScene, "feed(3, ..) without room", -4, x -> x.feed(3, 59, 59, 59, 59, 59));
        refused(SentencesTest::fullScene, "text(), six there", -4, x -> x.text());
        refused(SentencesTest::fullScene, "person(0, 0, 0, 0), six there", -4, x -> x.person(0, 0, 0, 0));
        refused(SentencesTest::fullScene, "move(2, 1, 0), sixteen there", -4, x -> x.move(2, 1, 0));
        refused(SentencesTest::fullScene, "help(0), six there", -3, x -> x.help(0));
        refused(SentencesTest::longFerry, "back() without AN IMAGE", -3, x -> x.back());
        refused(SentencesTest::longFerry, "peopleBy(0, 0, 0, 1), missing", -11, x -> x.peopleBy(0, 0, 0, 1));
    }

    /** Five people, three of them ABOARD. */
    private static OneForOne crowdedScene() {
        OneForOne x = scene();
        x.person(0, 42, 111, 0);
        return x;
    }

    private static void refused(Supplier<OneForOne> made, String call, long want, ToLongFunction<OneForOne> calling) {
        OneForOne x = made.get();
        due(call, calling.applyAsLong(x), want);
        same(call, x, made.get());
    }

    /** Whether all that can be asked of the two is alike; nothing can be done with them behind it. */
    private static void same(String call, OneForOne x, OneForOne untouched) {
        List<Long> got = allAnswers(x);
        List<Long> want = allAnswers(untouched);
        answers++;
        for (int i = 0; i < got.size() && i < want.size(); i++) {
            if (!got.get(i).equals(want.get(i))) {
                say(call + " changed something: answer " + i + " is " + got.get(i) + ", due is " + want.get(i));
                return;
            }
        }
    }

    private static List<Long> allAnswers(OneForOne x) {
        List<Long> all = new ArrayList<>();
        lakeAnswers(x, all);
        moveAnswers(x, all);
        int law = x.count(5);
        int texts = x.count(4);
        for (int t = 0; t < texts; t++) {
            x.force(t);
            all.add((long) x.asks(0, 0, 1, 1));
            all.add((long) x.asks(1, 0, 1, 0));
            all.add((long) x.asks(2, 0, 3, 0));
        }
        x.force(law);
        all.add((long) x.feed(1, ';', 0, 0, 0, 0));
        int t = x.text();
        all.add((long) t);
        all.add((long) x.force(t));
        all.add((long) x.asks(1, 0, 1, 0));
        all.add((long) x.back());
        lakeAnswers(x, all);
        sheetAnswers(x, all);
        return all;
    }

    private static void lakeAnswers(OneForOne x, List<Long> all) {
        for (int what = 0; what < 7; what++) {
            all.add((long) x.count(what));
        }
        int people = x.count(1);
        for (int p = 0; p < people; p++) {
            for (int what = 0; what < 7; what++) {
                all.add((long) x.told(p, what));
            }
        }
        for (int u = 0; u < 4; u++) {
            for (int v = 0; v < 4; v++) {
                if (u != v) {
                    all.add((long) x.asks(1, u, v, 0));
                }
            }
        }
        for (int what = 0; what < 3; what++) {
            all.add((long) x.all(what));
        }
        all.add((long) x.never(0));
        all.add((long) x.never(1));
        all.add((long) x.best(400, 0));
        all.add((long) x.best(400, 1));
        all.add((long) x.bound());
        all.add((long) x.drawn(7, 12, 1));
    }

    private static void moveAnswers(OneForOne x, List<Long> all) {
        all.add((long) x.judge());
        int moves = x.count(3);
        for (int n = 0; n <= moves; n++) {
            for (int what = 0; what < 4; what++) {
                all.add((long) x.run(n, what));
            }
            all.add((long) x.where(n, 0));
        }
    }

    private static void sheetAnswers(OneForOne x, List<Long> all) {
        for (int s = 0; s < 4; s++) {
            for (int sort = 0; sort < 3; sort++) {
                int came = x.peopleBy(s, sort, 0, 1);
                all.add((long) came);
                for (int what = 0; what < 6 && came == 1; what++) {
                    all.add((long) x.told(x.count(1) - 1, what));
                }
                x.back();
            }
            for (int i = 0; i < 8; i++) {
                all.add((long) x.cell(s, i, 0));
            }
        }
    }

    // ---- terms: what is asked

    private static void termsOfChanges() {
        in("Terms");
        sentence("What is asked changes nothing, but where it is told", () -> {
            askedOf(SentencesTest::scene);
            askedOf(SentencesTest::stuckScene);
            askedOf(SentencesTest::longFerry);
            askedOf(SentencesTest::fullScene);
        });
    }

    /** scene() with only two people, who are never THERE, for nobody is to be taken ON. */
    private static OneForOne stuckScene() {
        OneForOne x = scene();
        x.back();
        x.put(1, 2);
        x.put(0, 4);
        x.person(0, 40, 0, 0);
        return x;
    }

    private static void askedOf(Supplier<OneForOne> made) {
        asked(made, "count", x -> x.count(2));
        asked(made, "asks(0)", x -> x.asks(0, 0, 1, 3));
        asked(made, "asks(1)", x -> x.asks(1, 0, 3, 0));
        asked(made, "asks(2)", x -> x.asks(2, 1, 7, 0));
        asked(made, "told", x -> x.told(0, 6));
        asked(made, "may", x -> x.may(0, 1));
        asked(made, "alone", x -> x.alone());
        asked(made, "judge", x -> x.judge());
        asked(made, "run", x -> x.run(x.count(3), 0));
        asked(made, "where", x -> x.where(x.count(3), 0));
        asked(made, "all(0)", x -> x.all(0));
        asked(made, "all(1)", x -> x.all(1));
        asked(made, "all(2)", x -> x.all(2));
        asked(made, "soonest", x -> x.soonest(0));
        asked(made, "never", x -> x.never(0));
        asked(made, "best", x -> x.best(9, 1));
        asked(made, "bound", x -> x.bound());
        asked(made, "gap", x -> x.gap());
        asked(made, "way", x -> x.way(0, 3));
        asked(made, "help(0)", x -> x.help(0));
        asked(made, "help(1)", x -> x.help(1));
        asked(made, "laws", x -> x.laws());
        asked(made, "join", x -> x.join(2, 3));
        asked(made, "leave", x -> x.leave(0));
        asked(made, "first", x -> x.first());
        asked(made, "drawn", x -> x.drawn(9, 40, 0));
        asked(made, "chance", x -> x.chance(0, 9, 2040, 0));
        asked(made, "taken", x -> x.taken(4, 0));
        OneForOne one = made.get();
        OneForOne two = made.get();
        for (int round = 0; round < 3; round++) {
            due("all(0) behind other questions", one.all(0), two.all(0));
            due("all(1)", one.all(1), two.all(1));
            due("help(1)", one.help(1), made.get().help(1));
            due("never(1)", one.never(1), two.never(1));
            due("laws()", one.laws(), made.get().laws());
            due("best(400, 0)", one.best(400, 0), two.best(400, 0));
            due("first()", one.first(), made.get().first());
            due("leave(1)", one.leave(1), made.get().leave(1));
            due("join(1, 2)", one.join(1, 2), made.get().join(1, 2));
            due("gap()", one.gap(), two.gap());
            due("run(0, 2)", one.run(0, 2), two.run(0, 2));
            due("all(2)", one.all(2), made.get().all(2));
            due("best(400, 1)", one.best(400, 1), made.get().best(400, 1));
        }
    }

    private static void asked(Supplier<OneForOne> made, String call, ToLongFunction<OneForOne> calling) {
        OneForOne x = made.get();
        calling.applyAsLong(x);
        same(call, x, made.get());
    }

    // ---- promises 1 to 8: the lake, the law

    private static void theLakeAndTheLaw() {
        in("Promise 1");
        sentence("No PEOPLE, MOVES.", () -> {
            OneForOne x = new OneForOne();
            due("count(1)", x.count(1), 0);
            due("count(3)", x.count(3), 0);
            due("told(0, 0)", x.told(0, 0), -5);
            due("run(0, 0)", x.run(0, 0), 0);
            due("run(1, 0)", x.run(1, 0), -5);
            due("back(), no IMAGE", x.back(), -3);
            due("count(6), THE TAPE is empty", x.count(6), 0);
        });
        in("Promise 2");
        sentence("HOURS between two LANDINGS: what they were", () -> {
            OneForOne x = new OneForOne();
            for (int u = 0; u < 4; u++) {
                for (int v = u + 1; v < 4; v++) {
                    due("far(" + u + ", " + v + ", 9)", x.far(u, v, 9), v - u);
                    due("far(" + v + ", " + u + ", 1)", x.far(v, u, 1), 9);
                    due("far(" + u + ", " + v + ", " + (u + v) + ")", x.far(u, v, u + v), 1);
                }
            }
            for (int u = 0; u < 4; u++) {
                for (int v = u + 1; v < 4; v++) {
                    due("far(" + v + ", " + u + ", 1), each its own", x.far(v, u, 1), u + v);
                }
            }
        });
        sentence("NONE (alike, too)", () -> {
            OneForOne x = new OneForOne();
            due("far(4, 3, 5)", x.far(4, 3, 5), -1);
            due("far(3, 4, 5)", x.far(3, 4, 5), -1);
            due("far(-1, 0, 5)", x.far(-1, 0, 5), -1);
            due("far(0, -1, 5)", x.far(0, -1, 5), -1);
            for (int l = 0; l < 4; l++) {
                due("far(" + l + ", " + l + ", 5)", x.far(l, l, 5), -1);
            }
            due("far of the farthest numbers", x.far(Integer.MAX_VALUE, Integer.MIN_VALUE, 5), -1);
        });
        sentence("NONE (alike, too); BAD.", () -> {
            OneForOne x = new OneForOne();
            due("far(0, 3, 0)", x.far(0, 3, 0), -2);
            due("far(0, 3, -1)", x.far(0, 3, -1), -2);
            due("far(0, 3, 10)", x.far(0, 3, 10), -2);
            due("far(0, 3, 1)", x.far(0, 3, 1), 3);
            due("far(0, 3, 9)", x.far(0, 3, 9), 1);
        });
        in("Promise 3");
        sentence("THE BOAT is at a LANDING: where it was.", () -> {
            OneForOne x = new OneForOne();
            int was = 0;
            for (int l : new int[] {3, 3, 0, 2, 1}) {
                due("moor(" + l + ")", x.moor(l), was);
                was = l;
            }
        });
        sentence("BAD.", () -> {
            OneForOne x = new OneForOne();
            due("moor(4), ABOARD is no LANDING", x.moor(4), -2);
            due("moor(-1)", x.moor(-1), -2);
            due("moor(0)", x.moor(0), 0);
        });
        in("Promise 4");
        sentence("0 where THE BOAT is, 1 PEOPLE, 2 how many are ABOARD, 3 MOVES, 4 TEXTS, 5 THE LAW, 6 bytes of THE TAPE.", () -> {
            OneForOne x = new OneForOne();
            int[] least = {0, 0, 0, 0, 1, 0, 0};
            int[] most = {1, 6, 3, 16, 6, 1, 158};
            OneForOne full = fullScene();
            for (int what = 0; what < 7; what++) {
                due("count(" + what + ") at first", x.count(what), least[what]);
                due("count(" + what + ") when full", full.count(what), most[what]);
            }
        });
        sentence("BAD.", () -> {
            OneForOne x = new OneForOne();
            due("count(7)", x.count(7), -2);
            due("count(-1)", x.count(-1), -2);
        });
        feed();
        text();
        in("Promise 7");
        sentence("A TEXT is THE LAW: which was.", () -> {
            OneForOne x = new OneForOne();
            due("force(0)", x.force(0), 0);
            read(x, "may 1;row 17;gain 1;");
            due("force(1)", x.force(1), 0);
            due("asks(1, 0, 1, 0)", x.asks(1, 0, 1, 0), 17);
            due("force(1) again", x.force(1), 1);
            due("force(0)", x.force(0), 1);
            due("asks(1, 0, 1, 0)", x.asks(1, 0, 1, 0), 1);
        });
        sentence("BAD.", () -> {
            OneForOne x = new OneForOne();
            due("force(1), not there yet", x.force(1), -2);
            due("force(-1)", x.force(-1), -2);
            read(x, "may 1;row 1;gain 1");
            due("force(1), a FAULT is none", x.force(1), -2);
            read(x, "may 1;row 1;gain 1;");
            due("force(1)", x.force(1), 0);
            due("force(2)", x.force(2), -2);
        });
        asks();
    }

    private static void feed() {
        in("Promise 5");
        sentence("The first n (1 .. 5) of five bytes (0 .. 255 each) come behind THE TAPE's, one by one: how many it has.", () -> {
            for (int n = 1; n < 6; n++) {
                OneForOne x = new OneForOne();
                due("feed(" + n + ", ..)", x.feed(n, 'm', 'a', 'y', ' ', '1'), n);
                tape(x, "may 1;row 1".substring(n));
                due("feed(1, ..)", x.feed(1, ';', '1', '2', '3', '4'), 12);
                tape(x, "gain 1");
                due("feed(1, 59, 0, 255, ..)", x.feed(1, ';', 0, 255, 0, 255), 19);
                due("text() of which " + n + " bytes came at once", x.text(), 1);
            }
            OneForOne y = new OneForOne();
            due("feed of 0 and 255", y.feed(5, 0, 255, 0, 255, 0), 5);
        });
        sentence("BAD: n, any of the five;", () -> {
            OneForOne x = new OneForOne();
            due("feed(0, ..)", x.feed(0, 1, 1, 1, 1, 1), -2);
            due("feed(-1, ..)", x.feed(-1, 1, 1, 1, 1, 1), -2);
            due("feed(6, ..)", x.feed(6, 1, 1, 1, 1, 1), -2);
            for (int n = 1; n < 6; n += 4) {
                int[] five = {255, 0, 255, 0, 255};
                for (int i = 0; i < 5; i++) {
                    int was = five[i];
                    for (int bad : new int[] {256, -1, Integer.MAX_VALUE, Integer.MIN_VALUE}) {
                        five[i] = bad;
                        due("feed(" + n + ", ..), " + bad + " at " + i, x.feed(n, five[0], five[1], five[2], five[3], five[4]), -2);
                    }
                    five[i] = was;
                }
            }
            due("count(6)", x.count(6), 0);
        });
        sentence("FULL: not all of the n have room (none comes).", () -> {
            OneForOne x = new OneForOne();
            for (int k = 1; k < 32; k++) {
                due("feed(5, ..)", x.feed(5, 32, 32, 32, 32, 32), 5 * k);
            }
            due("feed(4, ..)", x.feed(4, 32, 32, 32, 32, 32), 159);
            for (int n = 5; n > 1; n--) {
                due("feed(" + n + ", ..) with room for 1", x.feed(n, 32, 32, 32, 32, 32), -4);
                due("count(6)", x.count(6), 159);
            }
            due("feed(1, ..)", x.feed(1, 32, 32, 32, 32, 32), 160);
            due("feed(1, ..) without room", x.feed(1, 32, 32, 32, 32, 32), -4);
            due("text()", x.text(), -100 - 160);
            due("feed(5, ..), it is empty then", x.feed(5, 32, 32, 32, 32, 32), 5);
        });
    }

    private static void text() {
        in("Promise 6");
        sentence("THE TAPE, which is empty then (by a FAULT, too), is a TEXT: its number;", () -> {
            OneForOne x = new OneForOne();
            due("text()", read(x, "may 1;row 5;gain 1;"), 1);
            due("count(6)", x.count(6), 0);
            due("text(), a FAULT", read(x, "may 1;row 5;gain 1"), -118);
            due("count(6)", x.count(6), 0);
            due("count(4)", x.count(4), 2);
            due("text() of nothing", x.text(), -100);
            due("text(), nothing is left over", read(x, "may 0;row 6;gain 1;"), 2);
            x.person(0, 0, 0, 0);
            x.person(0, 0, 0, 0);
            due("asks(0, ..), THE LAW stays", x.asks(0, 0, 1, 0), 1);
            x.force(1);
            due("asks(1, 0, 1, 0)", x.asks(1, 0, 1, 0), 5);
            x.force(2);
            due("asks(1, 0, 1, 0)", x.asks(1, 0, 1, 0), 6);
            due("asks(0, ..)", x.asks(0, 0, 1, 0), 0);
        });
        sentence("-100 less the place of its FAULT.", () -> {
            OneForOne x = new OneForOne();
            due("place 0", read(x, ";"), -100);
            due("place 1", read(x, " ;"), -101);
            due("place 159", read(x, " ".repeat(159) + ";"), -259);
            due("place 160", read(x, " ".repeat(160)), -260);
        });
        sentence("FULL (ahead of the FAULT; then THE TAPE stays).", () -> {
            OneForOne x = new OneForOne();
            for (int t = 1; t < 6; t++) {
                due("text()", read(x, "may 1;row 1;gain 1;"), t);
            }
            due("text() of nothing", x.text(), -4);
            due("text() of a FAULT", read(x, "may"), -4);
            due("count(6)", x.count(6), 3);
            due("text() again", x.text(), -4);
            tape(x, " 1;row 1;gain 1;");
            due("text() of what is none", x.text(), -4);
            due("count(6)", x.count(6), 19);
            due("count(4)", x.count(4), 6);
        });
    }

    private static void asks() {
        in("Promise 8");
        sentence("may for a OFF, b ON (PEOPLE) at LANDING c, as 1 or 0;", () -> {
            OneForOne x = crowd(6);
            String[] may = {"7", "-7", "0", "8192*8192*64", "at+off-on"};
            int[] isOf50At3 = {1, 1, 0, 0, 1};
            int[] isOf55At0 = {1, 1, 0, 0, 0};
            for (int k = 0; k < 5; k++) {
                rule(x, may[k], "1", "1");
                due("asks(0, 5, 0, 3) by " + may[k], x.asks(0, 5, 0, 3), isOf50At3[k]);
                due("asks(0, 5, 5, 0) by " + may[k], x.asks(0, 5, 5, 0), isOf55At0[k]);
            }
        });
        sentence("1 row from LANDING a to b (unlike ones);", () -> {
            OneForOne x = new OneForOne();
            due("asks(1, 0, 3, 99)", x.asks(1, 0, 3, 99), 3);
            due("asks(1, 3, 0, -99)", x.asks(1, 3, 0, -99), 3);
            for (int l = 0; l < 4; l++) {
                due("asks(1, " + l + ", " + l + ", 0)", x.asks(1, l, l, 0), -2);
            }
        });
        sentence("2 gain of one (a) at hour b (0 .. 400).", () -> {
            OneForOne x = crowd(6);
            rule(x, "1", "1", "hour+off");
            due("asks(2, 5, 0, 99)", x.asks(2, 5, 0, 99), 5);
            due("asks(2, 5, 400, -99)", x.asks(2, 5, 400, -99), 405);
            due("asks(2, 0, 401, 0)", x.asks(2, 0, 401, 0), -2);
            due("asks(2, 0, -1, 0)", x.asks(2, 0, -1, 0), -2);
        });
        sentence("BAD.", () -> {
            OneForOne x = crowd(2);
            due("asks(-1, 0, 1, 0)", x.asks(-1, 0, 1, 0), -2);
            due("asks(3, 0, 1, 0)", x.asks(3, 0, 1, 0), -2);
            due("asks(0, 2, 0, 0)", x.asks(0, 2, 0, 0), -2);
            due("asks(0, -1, 0, 0)", x.asks(0, -1, 0, 0), -2);
            due("asks(0, 0, 2, 0)", x.asks(0, 0, 2, 0), -2);
            due("asks(0, 0, -1, 0)", x.asks(0, 0, -1, 0), -2);
            due("asks(0, 0, 1, 4)", x.asks(0, 0, 1, 4), -2);
            due("asks(0, 0, 1, -1)", x.asks(0, 0, 1, -1), -2);
            due("asks(0, 1, 0, 3)", x.asks(0, 1, 0, 3), 1);
            due("asks(1, 4, 0, 0)", x.asks(1, 4, 0, 0), -2);
            due("asks(1, -1, 0, 0)", x.asks(1, -1, 0, 0), -2);
            due("asks(1, 0, 4, 0)", x.asks(1, 0, 4, 0), -2);
            due("asks(1, 0, -1, 0)", x.asks(1, 0, -1, 0), -2);
            due("asks(2, 2, 0, 0)", x.asks(2, 2, 0, 0), -2);
            due("asks(2, -1, 0, 0)", x.asks(2, -1, 0, 0), -2);
        });
    }

    // ---- promises 9 to 14: people

    private static void people() {
        in("Promise 9");
        sentence("(ways: 10 times where, and TO; byWorth: 100 times BY, and WORTH; more: OTHER): the number.", () -> {
            int[][] told = {{0, 0, 0, 0}, {5, 43, 9999, 5}, {2, 30, 100, 4}, {3, 3, 99, 1}, {1, 40, 9900, 2}, {4, 12, 1, 3}};
            OneForOne x = new OneForOne();
            for (int p = 0; p < 6; p++) {
                int[] t = told[p];
                due("person() the next", x.person(t[0], t[1], t[2], t[3]), p);
            }
            for (int p = 0; p < 6; p++) {
                int[] t = told[p];
                due("KIND of " + p, x.told(p, 0), t[0]);
                due("where " + p + " is", x.told(p, 1), t[1] / 10);
                due("TO of " + p, x.told(p, 2), t[1] % 10);
                due("BY of " + p, x.told(p, 3), t[2] / 100);
                due("WORTH of " + p, x.told(p, 4), t[2] % 100);
                due("OTHER of " + p, x.told(p, 5), t[3]);
            }
        });
        sentence("BAD; FULL; STATE: 3 are ABOARD.", () -> {
            OneForOne x = new OneForOne();
            int[][] bad = {{-1, 0, 0, 0}, {6, 0, 0, 0}, {0, -1, 0, 0}, {0, -10, 0, 0}, {0, 4, 0, 0}, {0, 9, 0, 0}, {0, 34, 0, 0},
                {0, 44, 0, 0}, {0, 50, 0, 0}, {0, 0, -1, 0}, {0, 0, 10000, 0}, {0, 0, 0, -1}, {0, 0, 0, 6},
                {Integer.MIN_VALUE, 0, 0, 0}, {0, Integer.MAX_VALUE, 0, 0}, {0, Integer.MIN_VALUE, 0, 0},
                {0, 0, Integer.MIN_VALUE, 0}, {0, 0, 0, Integer.MAX_VALUE}};
            for (int[] b : bad) {
                due("person(" + b[0] + ", " + b[1] + ", " + b[2] + ", " + b[3] + ")", x.person(b[0], b[1], b[2], b[3]), -2);
            }
            due("count(1)", x.count(1), 0);
            for (int p = 0; p < 3; p++) {
                due("person(0, 43, 0, 0)", x.person(0, 43, 0, 0), p);
            }
            due("person(0, 43, 0, 0), 3 are ABOARD", x.person(0, 43, 0, 0), -3);
            due("person(0, 33, 0, 0), at a LANDING", x.person(0, 33, 0, 0), 3);
            x.put(0, 3);
            due("person(0, 43, 0, 0), 2 are ABOARD", x.person(0, 43, 0, 0), 4);
            due("person(0, 3, 0, 0)", x.person(0, 3, 0, 0), 5);
            due("person(0, 3, 0, 0), 6 are there", x.person(0, 3, 0, 0), -4);
            x.put(1, 3);
            due("person(0, 43, 0, 0), 6 are there", x.person(0, 43, 0, 0), -4);
        });
        foe();
        in("Promise 11");
        sentence("-5: no such one; -7: what.", () -> {
            OneForOne x = crowd(5);
            due("told(4, 6)", x.told(4, 6), 0);
            due("told(5, 0)", x.told(5, 0), -5);
            due("told(-1, 0)", x.told(-1, 0), -5);
            due("told(4, 7)", x.told(4, 7), -7);
            due("told(0, -1)", x.told(0, -1), -7);
        });
        sentence("0 KIND, 1 where, 2 TO, 3 BY, 4 WORTH, 5 OTHER, 6 FOES (bits).", () -> {
            OneForOne x = crowd(5);
            x.person(4, 32, 9807, 1);
            for (int p = 0; p < 5; p++) {
                x.foe(5, p, 1);
            }
            int[] of = {4, 3, 2, 98, 7, 1, 31};
            for (int what = 0; what < 7; what++) {
                due("told(5, " + what + ")", x.told(5, what), of[what]);
            }
            due("told(0, 6)", x.told(0, 6), 32);
        });
        in("Promise 12");
        sentence("One is at a LANDING, ABOARD (4): where one was.", () -> {
            OneForOne x = crowd(6);
            int was = 0;
            for (int l : new int[] {4, 4, 3, 3, 0, 1, 2}) {
                due("put(5, " + l + ")", x.put(5, l), was);
                was = l;
            }
            due("told(5, 1)", x.told(5, 1), 2);
            due("told(4, 1)", x.told(4, 1), 0);
        });
        sentence("-5: no such one; -7: l;", () -> {
            OneForOne x = crowd(2);
            due("put(2, 0)", x.put(2, 0), -5);
            due("put(-1, 0)", x.put(-1, 0), -5);
            due("put(1, 5)", x.put(1, 5), -7);
            due("put(1, -1)", x.put(1, -1), -7);
            due("put(1, 4)", x.put(1, 4), 0);
        });
        sentence("STATE: 3 others are ABOARD.", () -> {
            OneForOne x = crowd(5);
            for (int p = 0; p < 3; p++) {
                due("put(" + p + ", 4)", x.put(p, 4), 0);
            }
            due("put(3, 4)", x.put(3, 4), -3);
            due("put(3, 3)", x.put(3, 3), 0);
            for (int p = 0; p < 3; p++) {
                due("put(" + p + ", 4), only 2 others are", x.put(p, 4), 4);
            }
            due("put(1, 2)", x.put(1, 2), 4);
            due("put(3, 4)", x.put(3, 4), 3);
            due("put(1, 4)", x.put(1, 4), -3);
        });
        in("Promise 13");
        sentence("Whether a SWAP MAY BE as all is told (1, 0).", () -> {
            OneForOne x = pair(0, 0);
            due("may(0, 1)", x.may(0, 1), 1);
            x.move(1, 0, 1);
            due("may(0, 1), MOVES are told, not done", x.may(0, 1), 1);
            due("may(1, 0)", x.may(1, 0), 0);
            due("may(0, 0)", x.may(0, 0), 0);
            due("may(1, 1)", x.may(1, 1), 0);
            x.put(1, 1);
            due("may(0, 1), 1 is at landing 1", x.may(0, 1), 0);
            x.moor(1);
            due("may(0, 1), THE BOAT, too", x.may(0, 1), 1);
        });
        sentence("-5: PEOPLE.", () -> {
            OneForOne x = pair(0, 0);
            due("may(0, 2)", x.may(0, 2), -5);
            due("may(2, 0)", x.may(2, 0), -5);
            due("may(-1, 1)", x.may(-1, 1), -5);
            due("may(0, -1)", x.may(0, -1), -5);
            due("may(0, 0) of nobody", new OneForOne().may(0, 0), -5);
        });
        in("Promise 14");
        sentence("LANDINGS (bits) at which one MAY not STAND as all is told.", () -> {
            OneForOne x = new OneForOne();
            due("alone() of nobody", x.alone(), 0);
            for (int l = 0; l < 4; l++) {
                x.person(l % 2 == 0 ? 2 : 5, 10 * l, 0, 0);
                due("alone(), CHILDREN at " + (l + 1), x.alone(), (2 << l) - 1);
            }
            x.person(2, 40, 0, 0);
            due("alone(), one is ABOARD", x.alone(), 15);
            x.person(0, 20, 0, 0);
            due("alone(), a PERSON is at 2, too", x.alone(), 11);
            x.put(5, 3);
            due("alone(), the PERSON is at 3", x.alone(), 7);
            x.put(5, 4);
            due("alone(), the PERSON is ABOARD", x.alone(), 15);
            x.put(0, 1);
            due("alone(), two CHILDREN are others", x.alone(), 12);
            x.moor(3);
            due("alone(), THE BOAT is no other", x.alone(), 12);
        });
    }

    private static void foe() {
        in("Promise 10");
        sentence("Two are FOES (1), or not (0): what they were.", () -> {
            OneForOne x = crowd(6);
            for (int p = 0; p < 6; p++) {
                for (int q = 0; q < 6; q++) {
                    if (p != q) {
                        due("foe(" + p + ", " + q + ", 1)", x.foe(p, q, 1), 0);
                        due("told(" + p + ", 6)", x.told(p, 6), 1 << q);
                        due("told(" + q + ", 6)", x.told(q, 6), 1 << p);
                        due("foe(" + q + ", " + p + ", 1)", x.foe(q, p, 1), 1);
                        due("foe(" + p + ", " + q + ", 0)", x.foe(p, q, 0), 1);
                        due("foe(" + q + ", " + p + ", 0)", x.foe(q, p, 0), 0);
                    }
                }
            }
            for (int p = 0; p < 6; p++) {
                due("told(" + p + ", 6), none are left", x.told(p, 6), 0);
            }
            OneForOne y = crowd(6);
            for (int p = 0; p < 6; p++) {
                for (int q = 0; q < p; q++) {
                    y.foe(p, q, 1);
                }
            }
            y.foe(2, 4, 0);
            int[] foes = {62, 61, 59 - 16, 55, 47 - 4, 31};
            for (int p = 0; p < 6; p++) {
                due("told(" + p + ", 6), all but 2 and 4", y.told(p, 6), foes[p]);
            }
        });
        sentence("NONE (alike, too); BAD.", () -> {
            OneForOne x = crowd(5);
            due("foe(5, 0, 1)", x.foe(5, 0, 1), -1);
            due("foe(0, 5, 1)", x.foe(0, 5, 1), -1);
            due("foe(-1, 0, 1)", x.foe(-1, 0, 1), -1);
            due("foe(0, -1, 1)", x.foe(0, -1, 1), -1);
            for (int p = 0; p < 5; p++) {
                due("foe(" + p + ", " + p + ", 1)", x.foe(p, p, 1), -1);
                due("told(" + p + ", 6)", x.told(p, 6), 0);
            }
            due("foe(0, 4, 2)", x.foe(0, 4, 2), -2);
            due("foe(0, 4, -1)", x.foe(0, 4, -1), -2);
            due("foe(0, 4, 1)", x.foe(0, 4, 1), 0);
        });
    }

    // ---- promises 15 to 19: moves

    private static void moves() {
        in("Promise 15");
        sentence("kind 0 ROW to a LANDING a;", () -> {
            OneForOne x = new OneForOne();
            due("move(0, 0, 0)", x.move(0, 0, 0), 0);
            due("move(0, 3, 0)", x.move(0, 3, 0), 1);
            due("move(0, 4, 0)", x.move(0, 4, 0), -2);
            due("move(0, -1, 0)", x.move(0, -1, 0), -2);
            due("run(2, 1)", x.run(2, 1), 3);
        });
        sentence("1 a OFF, b ON (0 .. 5 both, also if there is no such one: it MAY not BE then);", () -> {
            OneForOne x = new OneForOne();
            due("move(1, 5, 0) of nobody", x.move(1, 5, 0), 0);
            due("move(1, 0, 5) of nobody", x.move(1, 0, 5), 1);
            due("move(1, 0, 1) of nobody", x.move(1, 0, 1), 2);
            due("judge()", x.judge(), 0);
            x.person(0, 40, 0, 0);
            x.person(0, 0, 0, 0);
            due("judge(), 5 is still nobody", x.judge(), 0);
            due("where(2, 0)", x.where(2, 0), 4);
            due("where(3, 0), 0 and 1 have come", x.where(3, 0), 0);
            due("move(1, 6, 0)", x.move(1, 6, 0), -2);
            due("move(1, 0, 6)", x.move(1, 0, 6), -2);
            due("move(1, -1, 0)", x.move(1, -1, 0), -2);
            due("move(1, 0, -1)", x.move(1, 0, -1), -2);
            due("move(1, 3, 3), alike", x.move(1, 3, 3), 3);
            OneForOne y = crowd(6);
            y.put(5, 4);
            y.move(1, 5, 4);
            y.move(1, 4, 5);
            due("judge(), the sixth", y.judge(), -1);
        });
        sentence("2 WAIT a hours (0 .. 99) (b 0 .. 5, whatever it is, for all): its number.", () -> {
            OneForOne x = new OneForOne();
            due("move(2, 0, 0)", x.move(2, 0, 0), 0);
            due("move(2, 99, 5)", x.move(2, 99, 5), 1);
            due("move(2, 100, 0)", x.move(2, 100, 0), -2);
            due("move(2, -1, 0)", x.move(2, -1, 0), -2);
            for (int kind = 0; kind < 3; kind++) {
                due("move(" + kind + ", 1, 6)", x.move(kind, 1, 6), -2);
                due("move(" + kind + ", 1, -1)", x.move(kind, 1, -1), -2);
            }
            for (int b = 0; b < 6; b++) {
                due("move(0, " + b % 2 + ", " + b + ")", x.move(0, b % 2, b), 2 + b);
                due("run(" + (3 + b) + ", 1)", x.run(3 + b, 1), b % 2);
            }
        });
        sentence("BAD; FULL.", () -> {
            OneForOne x = new OneForOne();
            due("move(3, 0, 0)", x.move(3, 0, 0), -2);
            due("move(-1, 0, 0)", x.move(-1, 0, 0), -2);
            for (int k = 0; k < 16; k++) {
                due("move(2, 1, 0)", x.move(2, 1, 0), k);
            }
            due("move(2, 1, 0), 16 are there", x.move(2, 1, 0), -4);
            due("move(3, 0, 0), 16 are there", x.move(3, 0, 0), -2);
            x.clear();
            due("move(2, 1, 0), there is room", x.move(2, 1, 0), 0);
        });
        in("Promise 16");
        sentence("There are no MOVES any more: how many there were.", () -> {
            OneForOne x = new OneForOne();
            due("clear() of none", x.clear(), 0);
            for (int k = 0; k < 16; k++) {
                x.move(2, 9, 0);
            }
            due("clear() of 16", x.clear(), 16);
            due("count(3)", x.count(3), 0);
            due("run(1, 0)", x.run(1, 0), -5);
            due("clear() again", x.clear(), 0);
            x.move(0, 1, 0);
            due("run(1, 0), nothing of what was", x.run(1, 0), 1);
        });
        in("Promise 17");
        sentence("The first MOVE that MAY not BE; -1: none.", () -> {
            OneForOne x = new OneForOne();
            due("judge() of no MOVES", x.judge(), -1);
            for (int k = 0; k < 15; k++) {
                x.move(0, 1 - k % 2, 0);
                due("judge() of " + (k + 1), x.judge(), -1);
            }
            x.move(0, 1, 0);
            due("judge(), the sixteenth", x.judge(), 15);
            x.moor(1);
            due("judge(), the first and the sixteenth", x.judge(), 0);
            OneForOne y = new OneForOne();
            y.move(0, 1, 0);
            y.move(0, 1, 0);
            y.move(0, 1, 0);
            due("judge(), the second is the first", y.judge(), 1);
        });
        run();
        in("Promise 19");
        sentence("Where one is behind n MOVES.", () -> {
            OneForOne x = ferry();
            x.move(1, 0, 1);
            x.move(1, 0, 1);
            x.move(0, 2, 0);
            x.move(1, 1, 2);
            int[][] places = {{4, 0, 2}, {0, 4, 2}, {0, 4, 2}, {0, 4, 2}, {0, 2, 4}};
            for (int n = 0; n < 5; n++) {
                for (int p = 0; p < 3; p++) {
                    due("where(" + n + ", " + p + ")", x.where(n, p), places[n][p]);
                }
            }
            for (int p = 0; p < 3; p++) {
                due("told(" + p + ", 1), as before", x.told(p, 1), places[0][p]);
            }
            OneForOne y = crowd(6);
            due("where(0, 5)", y.where(0, 5), 0);
            y.put(5, 3);
            due("where(0, 5)", y.where(0, 5), 3);
        });
        sentence("-5: n, no such one.", () -> {
            OneForOne x = crowd(2);
            x.move(2, 1, 0);
            due("where(1, 1)", x.where(1, 1), 0);
            due("where(2, 1)", x.where(2, 1), -5);
            due("where(-1, 1)", x.where(-1, 1), -5);
            due("where(1, 2)", x.where(1, 2), -5);
            due("where(1, -1)", x.where(1, -1), -5);
            due("where(0, 0) of nobody", new OneForOne().where(0, 0), -5);
        });
    }

    private static void run() {
        in("Promise 18");
        sentence("Behind n MOVES what 0 the hour, 1 where THE BOAT is, 2 who is THERE (bits),", () -> {
            OneForOne x = crowd(6);
            x.put(5, 4);
            x.move(1, 5, 4);
            x.move(0, 3, 0);
            x.move(2, 99, 0);
            x.move(0, 0, 0);
            x.move(1, 4, 5);
            int[] hours = {0, 0, 3, 102, 105, 105};
            int[] boats = {0, 0, 3, 3, 0, 0};
            int[] there = {31, 47, 47, 47, 47, 31};
            for (int n = 0; n < 6; n++) {
                due("run(" + n + ", 0)", x.run(n, 0), hours[n]);
                due("run(" + n + ", 1)", x.run(n, 1), boats[n]);
                due("run(" + n + ", 2)", x.run(n, 2), there[n]);
            }
            x.clear();
            for (int k = 0; k < 16; k++) {
                x.move(2, 99, 0);
            }
            due("run(16, 0), as far as it goes", x.run(16, 0), 1584);
            due("run(0, 2) of nobody", new OneForOne().run(0, 2), 0);
        });
        sentence("3 all gain: of each who ever was at TO behind a MOVE, at the hour at which that was first.", () -> {
            OneForOne x = new OneForOne();
            for (int p = 0; p < 6; p++) {
                x.person(p == 3 ? 3 : 0, 0, 1000 + p + 1, 0);
            }
            due("run(0, 3), behind no MOVE", x.run(0, 3), 0);
            x.move(2, 10, 0);
            due("run(0, 3), behind no MOVE", x.run(0, 3), 0);
            due("run(1, 3), all six", x.run(1, 3), 21);
            x.move(2, 1, 0);
            due("run(2, 3), only once", x.run(2, 3), 21);
            x.clear();
            x.move(2, 11, 0);
            due("run(1, 3), too late", x.run(1, 3), 0);
            OneForOne y = crowd(2);
            rule(y, "1", "base", "100+hour+50*off");
            y.put(0, 4);
            y.move(1, 0, 1);
            y.move(2, 3, 0);
            y.move(1, 1, 0);
            y.move(2, 4, 0);
            y.move(1, 0, 1);
            due("run(1, 3), 0 is put OFF at TO", y.run(1, 3), 100);
            due("run(2, 3)", y.run(2, 3), 100);
            due("run(3, 3), 1 is put OFF at TO at hour 3", y.run(3, 3), 253);
            due("run(4, 3)", y.run(4, 3), 253);
            due("run(5, 3), 0 comes there once more", y.run(5, 3), 253);
            OneForOne z = new OneForOne();
            z.person(3, 41, 0, 0);
            z.person(3, 20, 0, 0);
            rule(z, "1", "1", "500");
            z.move(2, 1, 0);
            due("run(1, 3), PAID are THERE, but not at TO", z.run(1, 3), 0);
            z.put(1, 0);
            due("run(1, 3), one PAID is at TO", z.run(1, 3), 500);
        });
        sentence("-5: n; -7: what.", () -> {
            OneForOne x = new OneForOne();
            x.move(2, 5, 0);
            due("run(1, 3)", x.run(1, 3), 0);
            due("run(2, 0)", x.run(2, 0), -5);
            due("run(-1, 0)", x.run(-1, 0), -5);
            due("run(1, 4)", x.run(1, 4), -7);
            due("run(1, -1)", x.run(1, -1), -7);
            due("run(0, 4)", x.run(0, 4), -7);
        });
    }

    // ---- promises 20 to 23: all that can be come to

    private static void allThatCanBeComeTo() {
        in("Promise 20");
        sentence("The least 0 hours, 1 swaps, 2 rowings by which ALL are THERE;", () -> {
            OneForOne x = longFerry();
            due("all(0)", x.all(0), 8);
            due("all(1)", x.all(1), 6);
            due("all(2)", x.all(2), 5);
            OneForOne y = ferry();
            y.far(0, 2, 9);
            due("all(0), by landing 1: more rowings, fewer hours", y.all(0), 4);
            due("all(2)", y.all(2), 2);
            y.move(0, 2, 0);
            due("all(0), MOVES are told, not done", y.all(0), 4);
            OneForOne z = crowd(6);
            z.put(5, 4);
            due("all(1), the sixth is ABOARD", z.all(1), -1);
            OneForOne p = crowd(5);
            p.put(4, 4);
            p.person(3, 0, 0, 0);
            due("all(0), a PAID is the sixth", p.all(0), 0);
            due("all(1), a PAID is the sixth", p.all(1), 1);
            due("all(2), a PAID is the sixth", p.all(2), 0);
            OneForOne there = crowd(6);
            for (int what = 0; what < 3; what++) {
                due("all(" + what + "), ALL are THERE", there.all(what), 0);
                due("all(" + what + ") of nobody", new OneForOne().all(what), 0);
            }
        });
        sentence("-1: they never are.", () -> {
            OneForOne x = stuck();
            for (int what = 0; what < 3; what++) {
                due("all(" + what + ")", x.all(what), -1);
            }
            x.put(0, 1);
            for (int what = 0; what < 3; what++) {
                due("all(" + what + "), THERE", x.all(what), 0);
            }
        });
        sentence("BAD.", () -> {
            due("all(3)", crowd(1).all(3), -2);
            due("all(-1)", crowd(1).all(-1), -2);
        });
        in("Promise 21");
        sentence("The least hours by which one is at TO;", () -> {
            OneForOne x = ferry();
            due("soonest(0), a PAID, by a swap", x.soonest(0), 0);
            due("soonest(1)", x.soonest(1), 2);
            due("soonest(2)", x.soonest(2), 4);
            due("soonest(3) of five", longFerry().soonest(3), 3);
            OneForOne y = new OneForOne();
            y.person(3, 41, 0, 0);
            y.person(3, 2, 0, 0);
            y.person(0, 10, 0, 0);
            due("soonest(0), a PAID isn't at TO at once", y.soonest(0), 1);
            due("soonest(1), a PAID, nobody is at 2", y.soonest(1), -1);
            due("soonest(2)", y.soonest(2), 2);
            OneForOne six = crowd(6);
            for (int p = 0; p < 6; p++) {
                due("soonest(" + p + "), at TO at once", six.soonest(p), 0);
            }
            OneForOne sixth = crowd(5);
            sixth.put(0, 4);
            sixth.person(0, 3, 0, 0);
            sixth.put(1, 3);
            due("soonest(5)", sixth.soonest(5), 3);
        });
        sentence("-1: never.", () -> {
            due("soonest(0)", stuck().soonest(0), -1);
            OneForOne x = new OneForOne();
            x.person(4, 40, 0, 0);
            x.person(3, 12, 0, 0);
            due("soonest(0), KNITTING", x.soonest(0), -1);
            due("soonest(1), PAID", x.soonest(1), -1);
        });
        sentence("-5: no such one.", () -> {
            OneForOne x = crowd(5);
            due("soonest(4)", x.soonest(4), 0);
            due("soonest(5)", x.soonest(5), -5);
            due("soonest(-1)", x.soonest(-1), -5);
            due("soonest(0) of nobody", new OneForOne().soonest(0), -5);
        });
        neverAndBest();
    }

    private static void neverAndBest() {
        in("Promise 22");
        sentence("What 0 who is THERE in no STATE (bits),", () -> {
            due("never(0) of nobody", new OneForOne().never(0), 0);
            for (int p = 0; p < 6; p++) {
                for (int kind = 0; kind < 5; kind += 3) {
                    OneForOne x = new OneForOne();
                    for (int q = 0; q < 6; q++) {
                        x.person(q == p ? kind : 0, q == p ? 12 : 11, 0, 0);
                    }
                    due("never(0), " + p + " of KIND " + kind + " stays away", x.never(0), kind == 0 ? 1 << p : 0);
                }
            }
            OneForOne y = ferry();
            due("never(0), each is THERE in another STATE", y.never(0), 0);
            y.put(0, 0);
            due("never(0), nobody is ABOARD", y.never(0), 6);
            for (int seed = 0; seed < 4; seed++) {
                OneForOne one = new OneForOne();
                one.person(0, seed < 2 ? 40 : 0, 0, 0);
                one.person(0, seed < 2 ? 0 : 40, 0, 0);
                one.moor(3 * (seed % 2));
                due("never(0), one is at 0 by turns, THE BOAT at " + 3 * (seed % 2), one.never(0), 0);
            }
            OneForOne z = pair(0, 0);
            rule(z, "off=0 and on=1 and at=0 or off=1 and on=0 and at=0", "1", "1");
            due("never(0), neither at its TO", z.never(0), 3);
            z.put(1, 2);
            z.put(0, 4);
            due("never(0), 1 is at TO at first", z.never(0), 1);
        });
        sentence("1 how many STATES there are (by hours).", () -> {
            due("never(1) of nobody", new OneForOne().never(1), 4);
            due("never(1) of two", pair(0, 0).never(1), 8);
            OneForOne x = pair(0, 0);
            x.person(0, 10, 0, 0);
            due("never(1) of three in three places", x.never(1), 24);
            rule(x, "0", "1", "1");
            due("never(1), none MAY BE swapped", x.never(1), 4);
            due("never(1) of all that go", longFerry().never(1), 480);
        });
        sentence("BAD.", () -> {
            due("never(2)", crowd(1).never(2), -2);
            due("never(-1)", crowd(1).never(-1), -2);
        });
        in("Promise 23");
        sentence("Of all STATES with no more than so many hours (0 .. 400): the most gain of those who are at TO in it, at its hours (what 0),", () -> {
            OneForOne x = ferry();
            int[] most = {0, 0, 30, 30, 80, 80, 80};
            for (int hour = 0; hour < 7; hour++) {
                due("best(" + hour + ", 0)", x.best(hour, 0), most[hour]);
            }
            due("best(400, 0)", x.best(400, 0), 80);
            due("best(0, 0) of nobody", new OneForOne().best(0, 0), 0);
            OneForOne six = new OneForOne();
            for (int p = 0; p < 6; p++) {
                six.person(p == 2 ? 3 : p == 4 ? 4 : 0, 0, p + 1, 0);
            }
            due("best(0, 0) of six", six.best(0, 0), 21);
            six.put(5, 1);
            due("best(400, 0) of five, it is too late behind hour 0", six.best(400, 0), 15);
            OneForOne y = new OneForOne();
            y.person(3, 41, 0, 0);
            y.person(4, 22, 0, 0);
            rule(y, "1", "1", "400+off");
            due("best(0, 0), a PAID isn't at TO", y.best(0, 0), 401);
            due("best(1, 0), none comes for it", y.best(1, 0), 401);
            OneForOne late = crowd(1);
            rule(late, "1", "7", "hour");
            due("best(0, 0), gain by the hour", late.best(0, 0), 0);
            due("best(6, 0)", late.best(6, 0), 0);
            due("best(7, 0), THE BOAT elsewhere: a later STATE", late.best(7, 0), 7);
            due("best(400, 0), there is none later", late.best(400, 0), 7);
        });
        sentence("the fewest hours of such a one (1).", () -> {
            OneForOne x = ferry();
            int[] fewest = {0, 0, 2, 2, 4, 4, 4};
            for (int hour = 0; hour < 7; hour++) {
                due("best(" + hour + ", 1)", x.best(hour, 1), fewest[hour]);
            }
            due("best(400, 1)", x.best(400, 1), 4);
            due("best(400, 1) of nobody", new OneForOne().best(400, 1), 0);
            due("best(400, 1), never any gain", stuck().best(400, 1), 0);
            OneForOne late = crowd(1);
            rule(late, "1", "7", "hour");
            due("best(6, 1)", late.best(6, 1), 0);
            due("best(7, 1)", late.best(7, 1), 7);
            due("best(400, 1)", late.best(400, 1), 7);
        });
        sentence("BAD.", () -> {
            OneForOne x = crowd(1);
            due("best(401, 0)", x.best(401, 0), -2);
            due("best(-1, 0)", x.best(-1, 0), -2);
            due("best(401, 1)", x.best(401, 1), -2);
            due("best(0, 2)", x.best(0, 2), -2);
            due("best(400, -1)", x.best(400, -1), -2);
        });
    }

    // ---- promises 24 to 26: bounds

    private static void bounds() {
        in("Promise 24");
        sentence("THE BOUND (0: all are THERE).", () -> {
            due("bound() of nobody", new OneForOne().bound(), 0);
            due("bound(), six are THERE", crowd(6).bound(), 0);
            due("bound()", ferry().bound(), 4);
            OneForOne x = stuck();
            due("bound(), also if it never comes", x.bound(), 1);
            OneForOne y = new OneForOne();
            y.person(4, 40, 0, 0);
            y.person(3, 13, 0, 0);
            due("bound() of PAID", y.bound(), 0);
        });
        in("Promise 25");
        sentence("all(0) less THE BOUND; -1: they never are.", () -> {
            due("gap() of nobody", new OneForOne().gap(), 0);
            due("gap()", ferry().gap(), 0);
            due("gap() of five: 8 less 5", longFerry().gap(), 3);
            due("gap(), they never are", stuck().gap(), -1);
            OneForOne x = longFerry();
            due("all(0)", x.all(0), 8);
            x.move(0, 1, 0);
            x.far(0, 1, 9);
            x.far(0, 2, 9);
            x.far(0, 3, 9);
            due("gap() when HOURS have changed", x.gap(), x.all(0) - x.bound());
            due("all(0): 0 to 2, by 1, 3, 1 back to 0", x.all(0), 23);
            due("bound(): 0 to 2, 2 to 0", x.bound(), 18);
        });
        in("Promise 26");
        sentence("The shortest way from a LANDING to another one (or itself: 0), by others, too, by row.", () -> {
            OneForOne x = new OneForOne();
            for (int l = 0; l < 4; l++) {
                due("way(" + l + ", " + l + ")", x.way(l, l), 0);
            }
            for (int u = 0; u < 4; u++) {
                for (int v = 0; v < 4; v++) {
                    for (int w = 0; w < 4; w++) {
                        if (u < v && w != u && w != v) {
                            OneForOne y = allFar();
                            y.far(u, w, 2);
                            y.far(w, v, 3);
                            due("way(" + u + ", " + v + ") by " + w, y.way(u, v), 5);
                            due("way(" + v + ", " + u + ") by " + w, y.way(v, u), 5);
                        }
                    }
                }
            }
            int[][] rounds = {{0, 1, 2, 3}, {0, 2, 1, 3}, {0, 1, 3, 2}, {0, 3, 1, 2}, {0, 2, 3, 1}, {0, 3, 2, 1},
                {1, 0, 2, 3}, {1, 2, 0, 3}, {1, 0, 3, 2}, {1, 3, 0, 2}, {2, 0, 1, 3}, {2, 1, 0, 3}};
            for (int[] r : rounds) {
                OneForOne y = allFar();
                for (int k = 0; k < 3; k++) {
                    y.far(r[k], r[k + 1], k + 1);
                }
                due("way(" + r[0] + ", " + r[3] + ") by two others", y.way(r[0], r[3]), 6);
                due("way(" + r[3] + ", " + r[0] + ") by two others", y.way(r[3], r[0]), 6);
            }
            due("way(0, 3), none is shorter", allFar().way(0, 3), 9);
            OneForOne z = new OneForOne();
            rule(z, "1", "1+20*(off<on)", "1");
            due("way(0, 3), by row: up", z.way(0, 3), 21);
            due("way(3, 0), by row: down", z.way(3, 0), 1);
            due("way(2, 2)", z.way(2, 2), 0);
        });
        sentence("-5: LANDINGS.", () -> {
            OneForOne x = new OneForOne();
            due("way(4, 3)", x.way(4, 3), -5);
            due("way(3, 4)", x.way(3, 4), -5);
            due("way(-1, 0)", x.way(-1, 0), -5);
            due("way(0, -1)", x.way(0, -1), -5);
            due("way(4, 4)", x.way(4, 4), -5);
        });
    }

    private static OneForOne allFar() {
        OneForOne x = new OneForOne();
        for (int u = 0; u < 4; u++) {
            for (int v = 0; v < u; v++) {
                x.far(u, v, 9);
            }
        }
        return x;
    }

    // ---- promises 27 to 31: what would help

    private static void whatWouldHelp() {
        in("Promise 27");
        sentence("If ALL are never THERE: the first LANDING at which, were there one PAID more, they would be (what 0), in how many hours (1);", () -> {
            for (int to = 0; to < 4; to++) {
                for (int people = 1; people < 6; people++) {
                    OneForOne x = new OneForOne();
                    x.person(0, 40 + to, 0, 0);
                    for (int p = 1; p < people; p++) {
                        x.person(4, 10 * to, 0, 0);
                        x.foe(0, p, 1);
                    }
                    rule(x, "on=" + people, "base*7", "1");
                    due("help(0), " + people + " there, TO " + to, x.help(0), to);
                    due("help(1), " + people + " there, TO " + to, x.help(1), 7 * to);
                    due("count(1), it is only asked", x.count(1), people);
                }
            }
            OneForOne many = stuck();
            rule(many, "on=1", "base", "1");
            due("help(0), the new one is number 1", many.help(0), 1);
            rule(many, "on=2", "base", "1");
            due("help(0), the new one isn't number 2", many.help(0), -1);
            OneForOne several = new OneForOne();
            int[] ways = {40, 40, 12, 20, 20};
            for (int p = 0; p < 5; p++) {
                several.person(p == 2 ? 5 : 3, ways[p], 0, 5);
            }
            several.moor(1);
            due("help(0), each helps, for OTHER is 5: the first", several.help(0), 0);
            due("help(1), 1 to 0, to 1, to 2", several.help(1), 3);
            rule(several, "not(on=5 and at=0)", "base", "1");
            due("help(0), not at 0: the second", several.help(0), 1);
            due("help(1), 1 to 2", several.help(1), 1);
            OneForOne alone = new OneForOne();
            alone.person(2, 41, 0, 0);
            due("help(0), a CHILD may not STAND alone", alone.help(0), -1);
            alone.person(0, 11, 0, 0);
            due("help(0), with one more", alone.help(0), 1);
        });
        sentence("-1: none, or it isn't so.", () -> {
            OneForOne x = stuck();
            rule(x, "0", "1", "1");
            due("help(0), none", x.help(0), -1);
            due("help(1), none", x.help(1), -1);
            OneForOne empty = ferry();
            empty.put(0, 3);
            due("help(0), one more ABOARD would, at a LANDING none", empty.help(0), -1);
            due("help(1), one more ABOARD would, at a LANDING none", empty.help(1), -1);
            for (OneForOne y : new OneForOne[] {new OneForOne(), crowd(5), ferry(), longFerry()}) {
                due("help(0), it isn't so", y.help(0), -1);
                due("help(1), it isn't so", y.help(1), -1);
            }
        });
        sentence("BAD; STATE: there are 6.", () -> {
            OneForOne x = stuck();
            due("help(2)", x.help(2), -2);
            due("help(-1)", x.help(-1), -2);
            for (int p = 1; p < 5; p++) {
                x.person(0, 0, 0, 0);
            }
            due("help(0), there are 5", x.help(0), 1);
            x.person(0, 0, 0, 0);
            due("help(0), there are 6", x.help(0), -3);
            due("help(1), there are 6", x.help(1), -3);
        });
        in("Promise 28");
        sentence("TEXTS (bits), were they THE LAW, by which ALL are THERE once.", () -> {
            OneForOne x = ferry();
            due("laws() of one", x.laws(), 1);
            String[] may = {"0", "1", "off<on", "off-on", "not(off=0 and on=1)"};
            int[] bits = {1, 5, 5, 21, 53};
            for (int t = 1; t < 6; t++) {
                read(x, "may " + may[t - 1] + ";row 1;gain 1;");
                due("laws() of " + (t + 1), x.laws(), bits[t - 1]);
            }
            for (int t = 0; t < 6; t++) {
                x.force(t);
                due("laws(), THE LAW is " + t, x.laws(), 53);
                due("all(0), THE LAW is " + t, x.all(0) >= 0 ? 1 : 0, 53 >> t & 1);
            }
            x.put(1, 2);
            x.put(2, 0);
            due("laws(), ALL are THERE", x.laws(), 63);
            x.put(1, 4);
            due("laws(), never", x.laws(), 0);
            OneForOne nobody = new OneForOne();
            for (int t = 0; t < 6; t++) {
                due("laws() of nobody, TEXTS: " + (t + 1), nobody.laws(), (2 << t) - 1);
                read(nobody, "may 0;row 1;gain 1;");
            }
            OneForOne y = longFerry();
            read(y, "may 1;row 80;gain 1;");
            read(y, "may 1;row 81;gain 1;");
            due("laws(), in 400 hours and in 405", y.laws(), 3);
        });
        in("Promise 29");
        sentence("all(0), were HOURS between two LANDINGS 1.", () -> {
            OneForOne x = ferry();
            x.far(0, 2, 9);
            x.far(0, 3, 9);
            x.far(1, 3, 9);
            x.far(0, 1, 5);
            x.far(1, 2, 5);
            due("all(0)", x.all(0), 18);
            due("join(0, 2)", x.join(0, 2), 2);
            due("join(2, 0)", x.join(2, 0), 2);
            due("join(0, 1)", x.join(0, 1), 12);
            due("join(2, 1)", x.join(2, 1), 12);
            due("join(0, 3), by 3 to 2", x.join(0, 3), 4);
            due("join(1, 3), by 1 and 3", x.join(1, 3), 14);
            due("all(0), HOURS stay", x.all(0), 18);
            due("far(0, 2, 9)", x.far(0, 2, 9), 9);
            rule(x, "1", "base*10", "1");
            due("join(0, 2), HOURS, not row", x.join(0, 2), 20);
            due("join(0, 2), never", stuck().join(0, 2), -1);
            due("join(0, 2) of nobody", new OneForOne().join(0, 2), 0);
        });
        sentence("-5: LANDINGS (alike, too).", () -> {
            OneForOne x = ferry();
            due("join(4, 0)", x.join(4, 0), -5);
            due("join(0, 4)", x.join(0, 4), -5);
            due("join(-1, 0)", x.join(-1, 0), -5);
            due("join(0, -1)", x.join(0, -1), -5);
            for (int l = 0; l < 4; l++) {
                due("join(" + l + ", " + l + ")", x.join(l, l), -5);
            }
        });
        leave();
        first();
    }

    private static void leave() {
        in("Promise 30");
        sentence("The one of PEOPLE by whose not being counted (but there all the same) the others are all THERE in fewest hours, of like ones the first (what 0), in how many (1);", () -> {
            OneForOne x = ferry();
            due("leave(0)", x.leave(0), 2);
            due("leave(1)", x.leave(1), 2);
            x.moor(2);
            due("leave(0), THE BOAT at 2", x.leave(0), 1);
            due("leave(1), THE BOAT at 2", x.leave(1), 2);
            OneForOne one = stuck();
            due("leave(0) of one: no others", one.leave(0), 0);
            due("leave(1) of one: no others", one.leave(1), 0);
            OneForOne six = crowd(6);
            due("leave(0) of like ones", six.leave(0), 0);
            due("leave(1) of like ones", six.leave(1), 0);
            for (int p = 0; p < 6; p++) {
                OneForOne y = crowd(6);
                y.put(p, 2);
                due("leave(0), only " + p + " isn't THERE", y.leave(0), p);
                due("leave(1), only " + p + " isn't THERE", y.leave(1), 0);
            }
            OneForOne needed = new OneForOne();
            needed.person(0, 41, 0, 0);
            needed.person(0, 12, 0, 0);
            due("leave(0): 1 isn't counted, but taken ON", needed.leave(0), 1);
            due("leave(1): 1 isn't counted, but taken ON", needed.leave(1), 1);
        });
        sentence("-1: by none.", () -> {
            due("leave(0) of nobody", new OneForOne().leave(0), -1);
            due("leave(1) of nobody", new OneForOne().leave(1), -1);
            OneForOne x = crowd(6);
            x.put(0, 1);
            x.put(5, 2);
            due("leave(0), two are never THERE", x.leave(0), -1);
            due("leave(1), two are never THERE", x.leave(1), -1);
        });
        sentence("BAD.", () -> {
            due("leave(2)", ferry().leave(2), -2);
            due("leave(-1)", ferry().leave(-1), -2);
        });
    }

    private static void first() {
        in("Promise 31");
        sentence("The first SWAP (by the one OFF, then the one ON) that MAY BE as all is told, behind which all(0) is what it is: 10 times the one OFF, and the one ON;", () -> {
            due("first()", ferry().first(), 1);
            OneForOne x = ferry();
            x.moor(2);
            due("first(), THE BOAT at 2", x.first(), 2);
            OneForOne y = new OneForOne();
            for (int p = 0; p < 6; p++) {
                y.person(3, p < 3 ? 40 : 0, 0, 0);
            }
            int[] swaps = {3, 4, 5, 13, 14, 15, 23, 24, 25};
            for (int k = 0; k < 5; k++) {
                due("first() of those that are left", y.first(), swaps[k]);
                rule(y, swaps[k] + "<off*10+on", "1", "1");
            }
            OneForOne z = new OneForOne();
            for (int p = 0; p < 6; p++) {
                z.person(3, p < 3 ? 40 : 0, 0, 0);
            }
            rule(z, "off=2 and on=5", "1", "1");
            due("first(), only the last", z.first(), 25);
            OneForOne sixth = new OneForOne();
            for (int p = 0; p < 5; p++) {
                sixth.person(3, 0, 0, 0);
            }
            sixth.person(3, 40, 0, 0);
            due("first(), the sixth is OFF", sixth.first(), 50);
            OneForOne later = new OneForOne();
            later.person(3, 40, 0, 0);
            later.person(0, 0, 0, 0);
            later.person(0, 2, 0, 0);
            later.person(0, 20, 0, 0);
            due("first(), 1 comes back for nothing", later.first(), 1);
            rule(later, "not(off=1)", "base", "1");
            due("first(), 1 would not come back", later.first(), 2);
            rule(later, "1", "base", "1");
            later.foe(1, 3, 1);
            later.person(0, 30, 0, 0);
            due("first(), 4 is never THERE", later.first(), -1);
        });
        sentence("-1: none, or they never are.", () -> {
            due("first() of nobody", new OneForOne().first(), -1);
            due("first(), nobody is to be taken ON", crowd(6).first(), -1);
            OneForOne x = pair(0, 0);
            due("first(), they never are", x.first(), -1);
            OneForOne y = pair(3, 0);
            y.put(1, 0);
            y.person(0, 0, 0, 0);
            rule(y, "off<on and not(off=1)", "1", "1");
            due("first(), it never is again", y.first(), -1);
            OneForOne z = ferry();
            z.moor(1);
            due("first(), nobody is where THE BOAT is", z.first(), -1);
        });
    }

    // ---- promises 32 to 35: moves by lot

    private static void movesByLot() {
        in("Promise 32");
        sentence("DRAWN: behind n MOVES (0 .. 40) what 0 who is THERE (bits), 1 the hour, 2 where THE BOAT is.", () -> {
            OneForOne x = crowd(6);
            due("drawn(7, 0, 0)", x.drawn(7, 0, 0), 63);
            due("drawn(7, 0, 1)", x.drawn(7, 0, 1), 0);
            due("drawn(7, 0, 2)", x.drawn(7, 0, 2), 0);
            x.moor(2);
            due("drawn(7, 0, 2), THE BOAT at 2", x.drawn(7, 0, 2), 2);
            rule(x, "1", "99", "1");
            due("drawn(7, 40, 1)", x.drawn(7, 40, 1), 3960);
            due("drawn(7, 40, 0), nobody is ABOARD", x.drawn(7, 40, 0), 63);
            x.move(2, 50, 0);
            due("drawn(7, 1, 1), MOVES are told, not done", x.drawn(7, 1, 1), 99);
        });
        sentence("BAD.", () -> {
            OneForOne x = crowd(1);
            due("drawn(-1, 0, 0)", x.drawn(-1, 0, 0), -2);
            due("drawn(100000, 0, 0)", x.drawn(100000, 0, 0), -2);
            due("drawn(0, -1, 0)", x.drawn(0, -1, 0), -2);
            due("drawn(0, 41, 0)", x.drawn(0, 41, 0), -2);
            due("drawn(0, 0, -1)", x.drawn(0, 0, -1), -2);
            due("drawn(0, 0, 3)", x.drawn(0, 0, 3), -2);
            due("drawn(99999, 40, 2)", x.drawn(99999, 40, 2) >= 0 ? 1 : 0, 1);
        });
        chance();
        in("Promise 34");
        sentence("AN IMAGE is kept: how many PEOPLE.", () -> {
            OneForOne x = new OneForOne();
            for (int n = 0; n < 6; n++) {
                due("image() of " + n, x.image(), n);
                x.person(0, 0, 0, 0);
            }
            due("image() of 6", x.image(), 6);
            due("back(), the last IMAGE", x.back(), 6);
        });
        back();
    }

    private static void chance() {
        in("Promise 33");
        sentence("In how many of so many (how by 100: 1 .. 20) seeds,", () -> {
            OneForOne x = ferry();
            due("chance(0, 5, 100, 1)", x.chance(0, 5, 100, 1), 1);
            due("chance(0, 5, 2040, 1)", x.chance(0, 5, 2040, 1), 1);
            due("chance(0, 5, 99, 0), no seeds", x.chance(0, 5, 99, 0), NO);
            due("chance(0, 5, 40, 0), no seeds", x.chance(0, 5, 40, 0), NO);
            due("chance(0, 5, 0, 0), no seeds", x.chance(0, 5, 0, 0), NO);
            due("chance(0, 5, 2100, 0), 21 seeds", x.chance(0, 5, 2100, 0), NO);
            due("chance(0, 5, -100, 0)", x.chance(0, 5, -100, 0), NO);
            x.put(2, 0);
            for (int seeds = 1; seeds < 21; seeds++) {
                due("in so many of " + seeds, share(x, 2, 300, seeds, 5), 1);
            }
        });
        sentence("SEED and each 1 more (they may pass 99999),", () -> {
            OneForOne x = ferry();
            x.put(2, 0);
            due("chance(2, 99999, 101, 1)", x.chance(2, 99999, 101, 1), 1);
            int there = 0;
            for (long seed = 99999; seed < 100019; seed++) {
                long lot = (seed + 1) * 48271 % 2147483647;
                // Two SWAPS, the second takes 2 ON.
                there += lot % 5 == 1 ? 0 : 1;
            }
            due("chance(2, 99999, 2001, 0)", x.chance(2, 99999, 2001, 0) * 20, there * x.chance(2, 99999, 2001, 1));
            due("chance(2, 100000, 101, 0)", x.chance(2, 100000, 101, 0), NO);
            due("chance(2, -1, 201, 0)", x.chance(2, -1, 201, 0), NO);
        });
        sentence("one is THERE behind n MOVES (how modulo 100, 0 .. 40), DRAWN:", () -> {
            OneForOne x = crowd(6);
            x.put(0, 4);
            x.put(1, 1);
            due("chance(0, 7, 100, 0), ABOARD", x.chance(0, 7, 100, 0), 0);
            due("chance(1, 7, 100, 0), elsewhere", x.chance(1, 7, 100, 0), 0);
            due("chance(5, 7, 100, 0), at TO", x.chance(5, 7, 100, 0), 1);
            due("chance(5, 7, 141, 0), 41 MOVES", x.chance(5, 7, 141, 0), NO);
            due("chance(5, 7, 199, 0), 99 MOVES", x.chance(5, 7, 199, 0), NO);
            for (int n = 0; n < 41; n++) {
                due("behind " + n + " MOVES", share(x, 5, 77, 7, n), 1);
            }
        });
        sentence("part 0 above, 1 below the line, in lowest terms.", () -> {
            OneForOne x = ferry();
            due("never: 0 above", x.chance(1, 7, 2000, 0), 0);
            due("never: 1 below", x.chance(1, 7, 2000, 1), 1);
            due("always: 1 above", x.chance(0, 7, 2000, 0), 1);
            due("always: 1 below", x.chance(0, 7, 2000, 1), 1);
            x.put(2, 0);
            boolean shortened = false;
            for (int seed = 0; seed < 60; seed++) {
                long above = x.chance(2, seed, 1202, 0);
                long below = x.chance(2, seed, 1202, 1);
                for (int d = 2; d < 13; d++) {
                    if (above % d == 0 && below % d == 0) {
                        due("by " + d + " of seed " + seed, above, below);
                    }
                }
                shortened |= below < 12 && above > 1;
            }
            due("some are shortened", shortened ? 1 : 0, 1);
            due("part 2", x.chance(2, 0, 100, 2), NO);
            due("part -1", x.chance(2, 0, 100, -1), NO);
        });
        sentence("NO: none such.", () -> {
            OneForOne x = crowd(5);
            due("chance(5, 0, 100, 0)", x.chance(5, 0, 100, 0), NO);
            due("chance(-1, 0, 100, 0)", x.chance(-1, 0, 100, 0), NO);
            due("chance(0, 0, 100, 0)", x.chance(0, 0, 100, 0), 1);
            due("chance(0, 0, 100, 0) of nobody", new OneForOne().chance(0, 0, 100, 0), NO);
            due("chance of how far below 0", x.chance(0, 0, Integer.MIN_VALUE, 0), NO);
            due("chance of how far above", x.chance(0, 0, Integer.MAX_VALUE, 0), NO);
            due("chance of how -1", x.chance(0, 0, -1, 0), NO);
        });
    }

    /** 1 if chance() is the part of the seeds in which drawn() says that p is THERE. */
    private static int share(OneForOne x, int p, int seed, int seeds, int n) {
        int there = 0;
        for (int k = 0; k < seeds; k++) {
            there += x.drawn(seed + k, n, 0) >> p & 1;
        }
        int how = 100 * seeds + n;
        return x.chance(p, seed, how, 0) * seeds == there * x.chance(p, seed, how, 1) ? 1 : 0;
    }

    private static void back() {
        in("Promise 35");
        sentence("All that it keeps is as in THE IMAGE,", () -> {
            OneForOne x = new OneForOne();
            for (int p = 0; p < 6; p++) {
                x.person(p, p < 3 ? 40 : 10, 0, 0);
            }
            x.foe(0, 5, 1);
            x.foe(3, 4, 1);
            x.far(0, 3, 7);
            x.moor(2);
            rule(x, "1", "base+1", "1");
            x.image();
            for (int round = 0; round < 2; round++) {
                for (int p = 0; p < 6; p++) {
                    x.put(p, 3);
                }
                x.foe(0, 5, 0);
                x.foe(3, 4, 0);
                x.foe(5, 4, 1);
                x.far(0, 3, 9);
                x.far(1, 2, 9);
                x.moor(0);
                x.force(0);
                due("back()", x.back(), 6);
                for (int p = 0; p < 6; p++) {
                    due("told(" + p + ", 0)", x.told(p, 0), p);
                    due("told(" + p + ", 1)", x.told(p, 1), p < 3 ? 4 : 1);
                }
                int[] foes = {32, 0, 0, 16, 8, 1};
                for (int p = 0; p < 6; p++) {
                    due("told(" + p + ", 6)", x.told(p, 6), foes[p]);
                }
                due("count(0)", x.count(0), 2);
                due("count(5)", x.count(5), 1);
                due("asks(1, 3, 0, 0)", x.asks(1, 3, 0, 0), 8);
                due("asks(1, 1, 2, 0)", x.asks(1, 1, 2, 0), 2);
            }
            OneForOne y = ferry();
            y.image();
            due("all(0)", y.all(0), 4);
            y.put(0, 0);
            due("all(0), nobody is ABOARD", y.all(0), -1);
            y.back();
            due("all(0), back", y.all(0), 4);
        });
        sentence("PEOPLE who came since are gone: how many there are.", () -> {
            OneForOne x = crowd(1);
            x.image();
            for (int p = 1; p < 6; p++) {
                x.person(p, 13, 111, p);
                x.foe(0, p, 1);
            }
            due("back()", x.back(), 1);
            due("count(1)", x.count(1), 1);
            due("told(0, 6), no FOES are left", x.told(0, 6), 0);
            due("told(1, 0)", x.told(1, 0), -5);
            due("taken(5, 0)", x.taken(5, 0), -11);
            due("person(0, 20, 0, 0), the next number", x.person(0, 20, 0, 0), 1);
            due("told(1, 6), nothing of the one who is gone", x.told(1, 6), 0);
            due("told(1, 1)", x.told(1, 1), 2);
            OneForOne y = new OneForOne();
            y.image();
            y.person(0, 40, 0, 0);
            due("back() to nobody", y.back(), 0);
            due("count(2)", y.count(2), 0);
        });
        sentence("STATE: there is none.", () -> {
            OneForOne x = crowd(2);
            due("back()", x.back(), -3);
            due("count(1)", x.count(1), 2);
            x.image();
            due("back()", x.back(), 2);
            due("back(), THE IMAGE is kept", x.back(), 2);
        });
    }

    // ---- promises 36 to 40: the host

    /** What number i of a SHEET of ints is, if it can be a WORTH, as one of PEOPLE is told by it. */
    private static int worthAt(OneForOne x, int s, int sort, int i) {
        x.image();
        int came = x.peopleBy(s, sort, i - 2, 1);
        int worth = came == 1 ? x.told(x.count(1) - 1, 4) : -1;
        x.back();
        return worth;
    }

    private static void theHost() {
        in("Promise 36");
        sentence("A SHEET becomes a row of n of a sort, all 0,", () -> {
            OneForOne x = new OneForOne();
            for (int sort = 0; sort < 3; sort++) {
                due("sheet(3, " + sort + ", 40)", x.sheet(3, sort, 40), 1);
                x.cell(3, 2, 7);
                x.cell(3, 38, 8);
                due("number 2", worthAt(x, 3, sort, 2), 7);
                due("number 38", worthAt(x, 3, sort, 38), 8);
                due("sheet(3, " + sort + ", 40) again", x.sheet(3, sort, 40), 1);
                due("number 2 is 0", worthAt(x, 3, sort, 2), 0);
                due("number 38 is 0", worthAt(x, 3, sort, 38), 0);
            }
            due("sheet(0, 2, 0)", x.sheet(0, 2, 0), 1);
            due("cell(0, 0, 1)", x.cell(0, 0, 1), -12);
            due("sheet(0, 2, 1)", x.sheet(0, 2, 1), 1);
            due("cell(0, 0, 1)", x.cell(0, 0, 1), 1);
            due("cell(0, 1, 1)", x.cell(0, 1, 1), -12);
            due("sheet(1, 2, 4), the others stay", x.sheet(1, 2, 4), 1);
            due("cell(0, 0, 1)", x.cell(0, 0, 1), 1);
            due("cell(1, 3, 1)", x.cell(1, 3, 1), 1);
        });
        sentence("or missing (sort -1: n does not matter): 1.", () -> {
            OneForOne x = new OneForOne();
            for (int n : new int[] {0, -1, 40, 41, Integer.MIN_VALUE, Integer.MAX_VALUE}) {
                x.sheet(2, 1, 4);
                due("sheet(2, -1, " + n + ")", x.sheet(2, -1, n), 1);
                due("cell(2, 0, 1)", x.cell(2, 0, 1), -11);
            }
        });
        sentence("BAD: SHEET, sort, n above 40; -14.", () -> {
            OneForOne x = new OneForOne();
            due("sheet(4, 0, 1)", x.sheet(4, 0, 1), -2);
            due("sheet(-1, 0, 1)", x.sheet(-1, 0, 1), -2);
            due("sheet(4, -1, 0)", x.sheet(4, -1, 0), -2);
            due("sheet(0, 3, 1)", x.sheet(0, 3, 1), -2);
            due("sheet(0, -2, 1)", x.sheet(0, -2, 1), -2);
            for (int sort = 0; sort < 3; sort++) {
                due("sheet(0, " + sort + ", 41)", x.sheet(0, sort, 41), -2);
                due("sheet(0, " + sort + ", -1)", x.sheet(0, sort, -1), -14);
                due("sheet(0, " + sort + ", the least)", x.sheet(0, sort, Integer.MIN_VALUE), -14);
                due("sheet(0, " + sort + ", the most)", x.sheet(0, sort, Integer.MAX_VALUE), -2);
            }
            due("cell(0, 0, 0), still missing", x.cell(0, 0, 0), -11);
        });
        cell();
        copy();
        peopleBy();
        taken();
    }

    private static void cell() {
        in("Promise 37");
        sentence("Number i of a SHEET becomes v (of bytes, shorts its lowest 8, 16 bits): 1.", () -> {
            int[] v = {0, 99, 127, 128, 200, 255, 256, 256 + 99, -1, -256, 32767, 32768, 65535, 65536, 65536 + 99, -65536 + 98,
                Integer.MIN_VALUE, Integer.MIN_VALUE + 97, Integer.MAX_VALUE};
            for (int k = 0; k < v.length; k++) {
                for (int sort = 0; sort < 3; sort++) {
                    OneForOne x = new OneForOne();
                    x.sheet(0, sort, 4);
                    due("cell(0, 2, " + v[k] + ")", x.cell(0, 2, v[k]), 1);
                    int is = sort == 0 ? (byte) v[k] : sort == 1 ? (short) v[k] : v[k];
                    int came = x.peopleBy(0, sort, 0, 1);
                    due("it comes, of sort " + sort + " by " + v[k], came, is >= 0 && is < 10000 ? 1 : 0);
                    if (came == 1) {
                        due("BY, WORTH, of sort " + sort + " by " + v[k], 100 * x.told(0, 3) + x.told(0, 4), is);
                    }
                }
            }
            OneForOne y = new OneForOne();
            y.sheet(0, 2, 40);
            for (int i = 0; i < 40; i++) {
                due("cell(0, " + i + ", ..)", y.cell(0, i, i), 1);
            }
            due("peopleBy of 0, 1, 2, 3", y.peopleBy(0, 2, 0, 1), 1);
            due("each is its own", 1000 * y.told(0, 0) + 100 * y.told(0, 2) + 10 * y.told(0, 4) + y.told(0, 5), 123);
        });
        sentence("BAD: SHEET; -11; -12.", () -> {
            OneForOne x = new OneForOne();
            due("cell(4, 0, 0)", x.cell(4, 0, 0), -2);
            due("cell(-1, 0, 0)", x.cell(-1, 0, 0), -2);
            due("cell(3, 0, 0)", x.cell(3, 0, 0), -11);
            x.sheet(3, 0, 40);
            due("cell(3, 0, 0)", x.cell(3, 0, 0), 1);
            due("cell(3, 39, 0)", x.cell(3, 39, 0), 1);
            due("cell(3, 40, 0)", x.cell(3, 40, 0), -12);
            due("cell(3, -1, 0)", x.cell(3, -1, 0), -12);
            x.sheet(3, 0, 7);
            due("cell(3, 6, 0)", x.cell(3, 6, 0), 1);
            due("cell(3, 7, 0), behind a shorter row", x.cell(3, 7, 0), -12);
        });
    }

    private static void copy() {
        in("Promise 38");
        sentence("n numbers of a SHEET, from i on, come to another one's (or its own) place j (as they were): n.", () -> {
            for (int sort = 0; sort < 3; sort++) {
                OneForOne x = new OneForOne();
                x.sheet(0, sort, 10);
                x.sheet(1, sort, 10);
                for (int i = 0; i < 10; i++) {
                    x.cell(0, i, 10 * i);
                }
                due("copy(0, 2, 1, 4, 3)", x.copy(0, 2, 1, 4, 3), 3);
                int[] is = {0, 0, 0, 0, 20, 30, 40, 0, 0, 0};
                rowIs(x, 1, sort, is);
                due("copy(0, 9, 1, 0, 1)", x.copy(0, 9, 1, 0, 1), 1);
                due("copy(0, 0, 1, 9, 1)", x.copy(0, 0, 1, 9, 1), 1);
                due("copy(0, 0, 1, 5, 0), none", x.copy(0, 0, 1, 5, 0), 0);
                rowIs(x, 1, sort, new int[] {90, 0, 0, 0, 20, 30, 40, 0, 0, 0});
                due("copy(0, 0, 0, 3, 7), its own, on", x.copy(0, 0, 0, 3, 7), 7);
                rowIs(x, 0, sort, new int[] {0, 10, 20, 0, 10, 20, 30, 40, 50, 60});
                due("copy(0, 4, 0, 1, 6), its own, back", x.copy(0, 4, 0, 1, 6), 6);
                rowIs(x, 0, sort, new int[] {0, 10, 20, 30, 40, 50, 60, 40, 50, 60});
                due("copy(0, 0, 0, 0, 10), onto itself", x.copy(0, 0, 0, 0, 10), 10);
                due("copy(0, 0, 1, 0, 10), all", x.copy(0, 0, 1, 0, 10), 10);
                x.cell(0, 3, 99);
                rowIs(x, 1, sort, new int[] {0, 10, 20, 30, 40, 50, 60, 40, 50, 60});
            }
        });
        sentence("BAD: SHEETS; -11; -13: unlike sorts; -12 (n below 0, too).", () -> {
            OneForOne x = new OneForOne();
            x.sheet(0, 2, 8);
            x.sheet(1, 2, 4);
            x.sheet(2, 1, 8);
            int[][] bad = {{4, 0}, {-1, 0}, {0, 4}, {0, -1}};
            for (int[] b : bad) {
                due("copy(" + b[0] + ", 0, " + b[1] + ", 0, 1)", x.copy(b[0], 0, b[1], 0, 1), -2);
            }
            due("copy(0, 0, 3, 0, 1)", x.copy(0, 0, 3, 0, 1), -11);
            due("copy(3, 0, 0, 0, 1)", x.copy(3, 0, 0, 0, 1), -11);
            due("copy(3, 0, 3, 0, 0)", x.copy(3, 0, 3, 0, 0), -11);
            due("copy(0, 0, 2, 0, 1)", x.copy(0, 0, 2, 0, 1), -13);
            due("copy(2, 0, 0, 0, 0)", x.copy(2, 0, 0, 0, 0), -13);
            int[][] outside = {{5, 0, 4}, {0, 1, 4}, {0, 0, 5}, {-1, 0, 1}, {0, -1, 1}, {0, 0, -1}, {8, 0, 1}, {0, 4, 1},
                {9, 0, 0}, {0, 5, 0}, {-1, 0, 0}, {0, -1, 0}, {Integer.MAX_VALUE, 0, 1}, {0, Integer.MAX_VALUE, 1},
                {1, 0, Integer.MAX_VALUE}, {0, 1, Integer.MAX_VALUE}, {Integer.MIN_VALUE, 0, 1}, {0, 0, Integer.MIN_VALUE},
                {Integer.MAX_VALUE, Integer.MAX_VALUE, Integer.MAX_VALUE}};
            for (int[] o : outside) {
                due("copy(0, " + o[0] + ", 1, " + o[1] + ", " + o[2] + ")", x.copy(0, o[0], 1, o[1], o[2]), -12);
            }
            due("copy(0, 4, 1, 0, 4)", x.copy(0, 4, 1, 0, 4), 4);
            due("copy(0, 8, 1, 4, 0)", x.copy(0, 8, 1, 4, 0), 0);
        });
    }

    private static void rowIs(OneForOne x, int s, int sort, int[] want) {
        for (int i = 2; i + 1 < want.length; i++) {
            // One of PEOPLE can only be told by four: what stands around the number must do for it.
            x.sheet(3, sort, 4);
            x.copy(s, i, 3, 2, 1);
            due("number " + i + " of SHEET " + s, worthAt(x, 3, sort, 2), want[i]);
        }
        for (int i : new int[] {0, 1, want.length - 1}) {
            x.sheet(3, sort, 4);
            x.copy(s, i, 3, 2, 1);
            due("number " + i + " of SHEET " + s, worthAt(x, 3, sort, 2), want[i]);
        }
    }

    private static void peopleBy() {
        in("Promise 39");
        sentence("from a place on, four by four (as of person()), n of them (0 .. 6): how many came (others are left out).", () -> {
            for (int sort = 0; sort < 3; sort++) {
                OneForOne x = new OneForOne();
                x.sheet(2, sort, 40);
                int[] row = {3, 41, 111, 1, 6, 0, 0, 0, 0, 14, 0, 0, 0, 40, 0, 0, 2, 42, 99, 5, 0, 43, 0, 0, 1, 0, 0, 3};
                for (int i = 0; i < row.length; i++) {
                    x.cell(2, 3 + i, row[i]);
                }
                due("peopleBy(2, " + sort + ", 3, 0)", x.peopleBy(2, sort, 3, 0), 0);
                due("count(1)", x.count(1), 0);
                due("peopleBy(2, .., 3, 6): 6 BAD, TO 4 BAD, the fourth ABOARD is left out", x.peopleBy(2, sort, 3, 6), 3);
                due("count(1)", x.count(1), 3);
                int[][] told = {{3, 4, 1, 1, 11, 1}, {0, 4, 0, 0, 0, 0}, {2, 4, 2, 0, 99, 5}};
                for (int p = 0; p < 3; p++) {
                    for (int what = 0; what < 6; what++) {
                        due("told(" + p + ", " + what + ")", x.told(p, what), told[p][what]);
                    }
                }
                due("peopleBy(2, .., 27, 1)", x.peopleBy(2, sort, 27, 1), 1);
                due("told(3, 5)", x.told(3, 5), 3);
                due("peopleBy(2, .., 31, 2): two have room", x.peopleBy(2, sort, 31, 2), 2);
                due("peopleBy(2, .., 31, 2): none has", x.peopleBy(2, sort, 31, 2), 0);
                due("count(1)", x.count(1), 6);
            }
            OneForOne six = new OneForOne();
            six.sheet(0, 2, 40);
            due("peopleBy(0, 2, 16, 6), to the last number", six.peopleBy(0, 2, 16, 6), 6);
            OneForOne five = crowd(1);
            five.sheet(0, 2, 24);
            due("peopleBy(0, 2, 0, 6), five have room", five.peopleBy(0, 2, 0, 6), 5);
        });
        sentence("BAD: SHEET, sort, n; -11; -13; -12: what stood ahead came.", () -> {
            OneForOne x = new OneForOne();
            x.sheet(1, 1, 7);
            due("peopleBy(4, 1, 0, 1)", x.peopleBy(4, 1, 0, 1), -2);
            due("peopleBy(-1, 1, 0, 1)", x.peopleBy(-1, 1, 0, 1), -2);
            due("peopleBy(1, 3, 0, 1)", x.peopleBy(1, 3, 0, 1), -2);
            due("peopleBy(1, -1, 0, 1)", x.peopleBy(1, -1, 0, 1), -2);
            due("peopleBy(0, -1, 0, 1), missing ones have no sort", x.peopleBy(0, -1, 0, 1), -2);
            due("peopleBy(1, 1, 0, 7)", x.peopleBy(1, 1, 0, 7), -2);
            due("peopleBy(1, 1, 0, -1)", x.peopleBy(1, 1, 0, -1), -2);
            due("peopleBy(0, 1, 0, 1)", x.peopleBy(0, 1, 0, 1), -11);
            due("peopleBy(1, 0, 0, 1)", x.peopleBy(1, 0, 0, 1), -13);
            due("peopleBy(1, 2, 0, 0)", x.peopleBy(1, 2, 0, 0), -13);
            for (int place : new int[] {4, 5, 6, 7, 8, -1, -4, Integer.MAX_VALUE, Integer.MIN_VALUE, Integer.MAX_VALUE - 3}) {
                due("peopleBy(1, 1, " + place + ", 1)", x.peopleBy(1, 1, place, 1), -12);
                due("peopleBy(1, 1, " + place + ", 6)", x.peopleBy(1, 1, place, 6), -12);
            }
            due("count(1)", x.count(1), 0);
            due("peopleBy(1, 1, 3, 1)", x.peopleBy(1, 1, 3, 1), 1);
            due("peopleBy(1, 1, 0, 2), only three numbers of the second", x.peopleBy(1, 1, 0, 2), -12);
            due("count(1), the first came", x.count(1), 2);
            x.sheet(1, 1, 11);
            x.cell(1, 0, 9);
            due("peopleBy(1, 1, 0, 3), the first is left out, the third is outside", x.peopleBy(1, 1, 0, 3), -12);
            due("count(1), the second came", x.count(1), 3);
        });
    }

    private static void taken() {
        in("Promise 40");
        sentence("What lies at place i: 0 .. 3 LANDINGS, 4 .. 9 PEOPLE,", () -> {
            OneForOne x = crowd(6);
            for (int i = 0; i < 4; i++) {
                due("taken(" + i + ", 6)", x.taken(i, 6), i == 0 ? 6 : 0);
                due("taken(" + i + ", 0)", x.taken(i, 0), -13);
            }
            for (int i = 4; i < 10; i++) {
                due("taken(" + i + ", 0)", x.taken(i, 0), i - 4);
                due("taken(" + i + ", 6)", x.taken(i, 6), -13);
            }
        });
        sentence("taken for 0 .. 5 one of that KIND (also of one that is one): the number;", () -> {
            // Of each KIND, for which (bits) it may be taken.
            int[] is = {1, 3, 5, 9, 25, 37};
            for (int kind = 0; kind < 6; kind++) {
                for (int p = 0; p < 6; p += 5) {
                    OneForOne x = crowd(p);
                    x.person(kind, 40, 0, 0);
                    for (int as = 0; as < 6; as++) {
                        due("taken(" + (4 + p) + ", " + as + ") of KIND " + kind, x.taken(4 + p, as), (is[kind] >> as & 1) != 0 ? p : -13);
                    }
                }
            }
        });
        sentence("6 a LANDING: how many are there.", () -> {
            OneForOne x = crowd(6);
            for (int l = 0; l < 4; l++) {
                for (int p = 0; p < 6; p++) {
                    x.put(p, l);
                    due("taken(" + l + ", 6)", x.taken(l, 6), p + 1 + (l == 0 ? 5 - p : 0));
                }
            }
            x.put(0, 4);
            due("taken(3, 6), one is ABOARD", x.taken(3, 6), 5);
            x.moor(3);
            due("taken(3, 6), in THE BOAT", x.taken(3, 6), 5);
        });
        sentence("BAD: kind; -12: i; -11: nothing lies there; -13.", () -> {
            OneForOne x = crowd(2);
            due("taken(4, 7)", x.taken(4, 7), -2);
            due("taken(4, -1)", x.taken(4, -1), -2);
            due("taken(10, 0)", x.taken(10, 0), -12);
            due("taken(-1, 6)", x.taken(-1, 6), -12);
            due("taken(Integer.MAX_VALUE, 0)", x.taken(Integer.MAX_VALUE, 0), -12);
            due("taken(Integer.MIN_VALUE, 0)", x.taken(Integer.MIN_VALUE, 0), -12);
            due("taken(5, 0)", x.taken(5, 0), 1);
            due("taken(6, 0)", x.taken(6, 0), -11);
            due("taken(9, 0)", x.taken(9, 0), -11);
            due("taken(6, 6)", x.taken(6, 6), -11);
            due("taken(5, 6)", x.taken(5, 6), -13);
            due("taken(5, 1)", x.taken(5, 1), -13);
            due("taken(3, 5)", x.taken(3, 5), -13);
            due("taken(3, 6), nobody is there: it is no refusal", x.taken(3, 6), 0);
        });
    }
}
