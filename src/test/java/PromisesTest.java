/** Each promise of the document by its number: ordinary calls, the edges that it names, and wrong numbers. */
public final class PromisesTest {
    private static int wrong = 0;
    private static int checked = 0;

    private static void due(int promise, String call, long got, long want) {
        checked++;
        if (got != want) {
            wrong++;
            System.out.println("promise " + promise + ": " + call + " answered " + got + ", due is " + want);
        }
    }

    public static void main(String[] args) {
        newObject();
        far();
        moor();
        count();
        feed();
        text();
        textOperations();
        textFaults();
        force();
        asks();
        person();
        foe();
        told();
        put();
        may();
        mayKinds();
        alone();
        move();
        clearAndJudge();
        run();
        where();
        all();
        allAbove400();
        soonest();
        never();
        best();
        bound();
        gap();
        way();
        help();
        laws();
        join();
        leave();
        first();
        drawn();
        chance();
        image();
        back();
        sheet();
        cell();
        copy();
        peopleBy();
        taken();
        anyNumbers();
        System.out.println(checked + " answers, " + wrong + " not as due");
        if (wrong > 0) {
            System.exit(1);
        }
    }

    // ---- what several tests need

    /** Feeds a text byte by byte and reads it. */
    private static int read(OneForOne x, String text) {
        tape(x, text);
        return x.text();
    }

    private static void tape(OneForOne x, String text) {
        for (int i = 0; i < text.length(); i++) {
            x.feed(1, text.charAt(i), 0, 0, 0, 0);
        }
    }

    /** A text whose may, row and gain are the same E. */
    private static int readAll(OneForOne x, String e) {
        return read(x, "may " + e + ";row " + e + ";gain " + e + ";");
    }

    /**
     * One PAID aboard, 1 from landing 0 to 2 (by 5, worth 30), 2 from landing 2 to 0 (by 4, worth 50). The boat takes 1
     * to landing 2 in 2 hours, 2 to landing 0 in 4; three swaps, two rowings.
     */
    private static OneForOne ferry() {
        OneForOne x = new OneForOne();
        x.person(3, 40, 0, 0);
        x.person(0, 2, 530, 0);
        x.person(0, 20, 450, 0);
        return x;
    }

    /** Two more for the ferry: 3 from landing 1 to 3, 4 from landing 3 to 1. It takes 8 hours, 6 swaps, 5 rowings. */
    private static OneForOne longFerry() {
        OneForOne x = ferry();
        x.person(0, 13, 0, 0);
        x.person(0, 31, 0, 0);
        return x;
    }

    // ---- the lake, the law

    private static void newObject() {
        OneForOne x = new OneForOne();
        due(1, "count(1)", x.count(1), 0);
        due(1, "count(3)", x.count(3), 0);
        due(1, "told(0, 0)", x.told(0, 0), -5);
        due(1, "NONE", OneForOne.NONE, -1);
        due(1, "BAD", OneForOne.BAD, -2);
        due(1, "STATE", OneForOne.STATE, -3);
        due(1, "FULL", OneForOne.FULL, -4);
        due(1, "NO", OneForOne.NO, -4611686018427387904L);
    }

    private static void far() {
        OneForOne x = new OneForOne();
        for (int u = 0; u < 4; u++) {
            for (int v = 0; v < 4; v++) {
                if (u != v) {
                    due(2, "asks(1, u, v) at first", x.asks(1, u, v, 0), Math.abs(u - v));
                }
            }
        }
        due(2, "far(0, 3, 9)", x.far(0, 3, 9), 3);
        due(2, "far(3, 0, 1)", x.far(3, 0, 1), 9);
        due(2, "far(0, 3, 1)", x.far(0, 3, 1), 1);
        due(2, "far(4, 0, 1)", x.far(4, 0, 1), -1);
        due(2, "far(0, -1, 1)", x.far(0, -1, 1), -1);
        due(2, "far(2, 2, 1)", x.far(2, 2, 1), -1);
        due(2, "far(2, 2, 0), NONE ahead of BAD", x.far(2, 2, 0), -1);
        due(2, "far(1, 2, 0)", x.far(1, 2, 0), -2);
        due(2, "far(1, 2, 10)", x.far(1, 2, 10), -2);
        due(2, "far(1, 2, 1), not changed", x.far(1, 2, 1), 1);
    }

    private static void moor() {
        OneForOne x = new OneForOne();
        due(3, "moor(3)", x.moor(3), 0);
        due(3, "moor(3) again", x.moor(3), 3);
        due(3, "moor(4)", x.moor(4), -2);
        due(3, "moor(-1)", x.moor(-1), -2);
        due(3, "count(0)", x.count(0), 3);
    }

    private static void count() {
        OneForOne x = new OneForOne();
        int[] first = {0, 0, 0, 0, 1, 0, 0};
        for (int what = 0; what < 7; what++) {
            due(4, "count(" + what + ") at first", x.count(what), first[what]);
        }
        x.moor(2);
        x.person(0, 40, 0, 0);
        x.person(0, 41, 0, 0);
        x.person(0, 1, 0, 0);
        x.move(2, 1, 0);
        read(x, "may 1;row 1;gain 1;");
        x.force(1);
        x.feed(4, 1, 2, 3, 4, 5);
        int[] later = {2, 3, 2, 1, 2, 1, 4};
        for (int what = 0; what < 7; what++) {
            due(4, "count(" + what + ") later", x.count(what), later[what]);
        }
        due(4, "count(7)", x.count(7), -2);
        due(4, "count(-1)", x.count(-1), -2);
    }

    private static void feed() {
        OneForOne x = new OneForOne();
        due(5, "feed(0, ..)", x.feed(0, 1, 1, 1, 1, 1), -2);
        due(5, "feed(6, ..)", x.feed(6, 1, 1, 1, 1, 1), -2);
        int[] five = {0, 0, 0, 0, 0};
        for (int i = 0; i < 5; i++) {
            five[i] = 256;
            due(5, "feed with 256 at " + i, x.feed(1, five[0], five[1], five[2], five[3], five[4]), -2);
            five[i] = -1;
            due(5, "feed with -1 at " + i, x.feed(5, five[0], five[1], five[2], five[3], five[4]), -2);
            five[i] = 255;
        }
        due(5, "count(6) behind what was refused", x.count(6), 0);
        for (int k = 1; k <= 31; k++) {
            due(5, "feed(5, ..) the " + k + "th time", x.feed(5, 32, 0, 255, 32, 32), 5 * k);
        }
        due(5, "feed(3, ..)", x.feed(3, 32, 32, 32, 0, 0), 158);
        due(5, "feed(3, ..) without room", x.feed(3, 32, 32, 32, 0, 0), -4);
        due(5, "count(6), none came", x.count(6), 158);
        due(5, "feed(6, ..), BAD ahead of FULL", x.feed(6, 32, 32, 32, 0, 0), -2);
        due(5, "feed(2, ..) fills it", x.feed(2, 32, 32, 32, 0, 0), 160);
        due(5, "feed(1, ..) when full", x.feed(1, 32, 32, 32, 0, 0), -4);
        OneForOne y = new OneForOne();
        String text = "may 1;row 12345-0;gain 1;";
        for (int i = 0; i < text.length(); i += 5) {
            y.feed(5, text.charAt(i), text.charAt(i + 1), text.charAt(i + 2), text.charAt(i + 3), text.charAt(i + 4));
        }
        due(5, "the five come in their order: a NUMBER too long at 10", y.text(), -110);
        text = "may 1;row 87-0;gain off;;";
        for (int i = 0; i < text.length(); i += 5) {
            y.feed(5, text.charAt(i), text.charAt(i + 1), text.charAt(i + 2), text.charAt(i + 3), text.charAt(i + 4));
        }
        due(5, "the five come in their order: a ; too much at 24", y.text(), -124);
        y.feed(5, 'm', 'a', 'y', '0', ';');
        y.feed(5, 'r', 'o', 'w', '8', '7');
        y.feed(3, ';', 'g', 'a', 'x', 'x');
        y.feed(4, 'i', 'n', '5', ';', 'x');
        due(5, "only the first n come", y.text(), 1);
        y.force(1);
        due(5, "row of it", y.asks(1, 0, 1, 0), 87);
    }

    private static void text() {
        OneForOne x = new OneForOne();
        due(6, "a text", read(x, "may 1 ; row base ; gain 7 ;"), 1);
        due(6, "count(6) behind a text", x.count(6), 0);
        due(6, "a text without blanks, with lines", read(x, "may 1;row\n1;gain 1;\n \n"), 2);
        due(6, "a FAULT", read(x, "may 1 ; low base ; gain 7 ;"), -108);
        due(6, "count(6) behind a FAULT", x.count(6), 0);
        due(6, "count(4) behind a FAULT", x.count(4), 3);
        due(6, "nothing on the tape", x.text(), -100);
        due(6, "text 3", read(x, "may 1;row 1;gain 1;"), 3);
        due(6, "text 4", read(x, "may 1;row 1;gain 1;"), 4);
        due(6, "text 5", read(x, "may 0;row 9999;gain 9999;"), 5);
        tape(x, "may");
        due(6, "FULL ahead of the FAULT", x.text(), -4);
        due(6, "count(6), the tape stays", x.count(6), 3);
        due(6, "count(4)", x.count(4), 6);
        due(6, "text 1 is as it was", x.force(1) + 10 * x.asks(1, 0, 3, 0), 30);
        OneForOne z = new OneForOne();
        due(6, "a FAULT far on, with 4 open", read(z, "may 3;row 44;gain ((((5+;"), -124);
        due(6, "behind it a text with 5 open", read(z, "may 0;row 55;gain (((((5)))));"), 1);
        z.force(1);
        z.person(0, 0, 0, 0);
        due(6, "its may", z.asks(0, 0, 0, 0), 0);
        due(6, "its row", z.asks(1, 0, 1, 0), 55);
        due(6, "its gain", z.asks(2, 0, 0, 0), 5);
        String longest = "may 1+2+3+4;row 5;gain  ";
        while (longest.length() < 158) {
            longest += "1+";
        }
        longest += "1;";
        due(6, "a text's bytes", longest.length(), 160);
        OneForOne y = new OneForOne();
        y.person(0, 0, 0, 0);
        due(6, "a text of 160 bytes", read(y, longest), 1);
        y.force(1);
        due(6, "its gain", y.asks(2, 0, 0, 0), 68);
    }

    /** gain of an E, by asks(2): off 1, on 0, at 2, base 40, hour as told, by 7. */
    private static int gainOf(String e, int hour) {
        OneForOne x = new OneForOne();
        x.person(0, 0, 0, 0);
        x.person(0, 2, 740, 0);
        int t = read(x, "may 1;row 1;gain " + e + ";");
        x.force(t);
        return t != 1 ? -1000 + t : x.asks(2, 1, hour, 0);
    }

    private static void gains(String e, int want) {
        due(6, "gain " + e, gainOf(e, 9), want);
    }

    private static void textOperations() {
        gains("off", 1);
        gains("on", 0);
        gains("at", 2);
        gains("base", 40);
        gains("hour", 9);
        gains("by", 7);
        gains("2+3*4", 14);
        gains("(2+3)*4", 20);
        gains("20-3-2", 15);
        gains("20-(3-2)", 19);
        gains("10--3", 13);
        gains("-3+5", 2);
        gains("-(2-7)*3", 15);
        gains("2*-3+10", 4);
        gains("5<6", 1);
        gains("6<6", 0);
        gains("6=6", 1);
        gains("6=5", 0);
        gains("1+1=2", 1);
        gains("1<0+2", 1);
        gains("7 and 8", 1);
        gains("7 and 0", 0);
        gains("1 and 5", 1);
        gains("0 and 5", 0);
        gains("1 or 0", 1);
        gains("0 or 8", 1);
        gains("0 or 0", 0);
        gains("8", 8);
        gains("1 or 1 and 0", 1);
        gains("(1 or 1) and 0", 0);
        gains("not 0", 1);
        gains("not 5", 0);
        gains("not not 5", 1);
        gains("not 0 and 0", 0);
        gains("not 1 = 2", 1);
        gains("not 1 or 1", 1);
        gains("0007", 7);
        gains("9999*9999*9999", 0);
        gains("9999*9999*21 < 0", 0);
        gains("9999*9999*30 < 0", 1);
        gains("65535", -1000 - 117);
        gains("base*(hour<by+1)", 0);
        due(6, "gain base*(hour<by+1) at 7", gainOf("base*(hour<by+1)", 7), 40);
    }

    private static void fault(String text, int place) {
        due(6, "[" + text + "]", read(new OneForOne(), text), -100 - place);
    }

    private static void textFaults() {
        fault("   ", 3);
        fault("row 1;", 0);
        fault("may", 3);
        fault("may ;", 4);
        fault("may 1", 5);
        fault("may 1 ;  ", 9);
        fault("may 1 row 1;", 6);
        fault("may 1;gain 1;row 1;", 6);
        fault("may 1;row 1;gain 1", 18);
        fault("may 1;row 1;gain 1; ;", 20);
        fault("may 1;row 1;gain 1;may", 19);
        fault("may 1 2;", 6);
        fault("may 1+;", 6);
        fault("may +1;", 4);
        fault("may 1+*2;", 6);
        fault("may 1<;", 6);
        fault("may 1=;", 6);
        fault("may 1*;", 6);
        fault("may -;", 5);
        fault("may (1<);", 7);
        fault("may 1;row 1;gain 1;\0", 19);
        fault("\0may 1;row 1;gain 1;", 0);
        fault("may (1;", 6);
        fault("may 1);", 5);
        fault("may ();", 5);
        fault("may 1<2<3;", 7);
        fault("may 1=2=3;", 7);
        fault("may 1+not 1;", 6);
        fault("may -not 1;", 5);
        fault("may not;", 7);
        fault("may or 1;", 4);
        fault("may 1 and;", 9);
        fault("may 1 and or 1;", 10);
        fault("may offf;", 4);
        fault("may o;", 4);
        fault("may Off;", 4);
        fault("may may;", 4);
        fault("may 1;row rows;", 10);
        fault("may off1;", 7);
        fault("may 12345;", 4);
        fault("may 1 + 00001;", 8);
        fault("may 9999;row #;", 13);
        fault("may 1\t;", 5);
        fault("may 1/2;", 5);
        fault("may 1>2;", 5);
        fault("may 1;row 1;gain 1;\u00e9", 19);
        fault("may1;row1;gain1;#", 16);
        due(6, "a word directly ahead of a number", read(new OneForOne(), "may1;row1;gain1;"), 1);
        due(6, "5 open (", readAll(new OneForOne(), "(((((1)))))"), 1);
        fault("may ((((((1))))));", 9);
        due(6, "5 open -", readAll(new OneForOne(), "-----1"), 1);
        fault("may ------1;", 9);
        due(6, "5 open not", readAll(new OneForOne(), "not not not not not 1"), 1);
        fault("may not not not not not not 1;", 24);
        fault("may not(-(-(1)));", 11);
        due(6, "closed again", readAll(new OneForOne(), "((((1))))+((((1))))"), 1);
        due(6, "a - ends with its ONE", readAll(new OneForOne(), "-1+-1+-1+-1+-1+-1+-1"), 1);
        due(6, "a not ends with its NOT", readAll(new OneForOne(), "not 1 or not 1 or not 1 or not 1"), 1);
        fault("may not 1=((((-1))));", 14);
        due(6, "a not is open till its second SUM ends", read(new OneForOne(), "may not 1=(((-1)));row 1;gain 1;"), 1);
    }

    private static void force() {
        OneForOne x = new OneForOne();
        due(7, "force(1), not there yet", x.force(1), -2);
        due(7, "force(-1)", x.force(-1), -2);
        due(7, "force(0)", x.force(0), 0);
        read(x, "may 0;row 17;gain 5;");
        due(7, "count(5), a text is not yet THE LAW", x.count(5), 0);
        due(7, "force(1)", x.force(1), 0);
        due(7, "row by it", x.asks(1, 0, 1, 0), 17);
        due(7, "force(0)", x.force(0), 1);
        due(7, "row by the first", x.asks(1, 0, 1, 0), 1);
        due(7, "force(6)", x.force(6), -2);
    }

    private static void asks() {
        OneForOne x = new OneForOne();
        x.person(0, 12, 530, 0);
        x.person(0, 12, 530, 0);
        read(x, "may off*2+at-on-3;row off*100-on;gain hour*10-100;");
        x.far(0, 1, 7);
        due(8, "asks(0, 0, 1, 2) by text 0", x.asks(0, 0, 1, 2), 1);
        due(8, "asks(1, 1, 0, 9) by text 0", x.asks(1, 1, 0, 9), 7);
        due(8, "asks(2, 0, 5, 9) by text 0", x.asks(2, 0, 5, 9), 30);
        due(8, "asks(2, 0, 6, 9) by text 0", x.asks(2, 0, 6, 9), 0);
        x.force(1);
        due(8, "asks(0, 1, 0, 1): 2+1-0-3", x.asks(0, 1, 0, 1), 0);
        due(8, "asks(0, 1, 0, 2): 2+2-0-3", x.asks(0, 1, 0, 2), 1);
        due(8, "asks(0, 0, 0, 3): alike are no fault", x.asks(0, 0, 0, 3), 0);
        due(8, "asks(0, 0, 1, 0): -4 isn't 0", x.asks(0, 0, 1, 0), 1);
        due(8, "asks(1, 0, 3, 0): -3 is below", x.asks(1, 0, 3, 0), 1);
        due(8, "asks(1, 1, 3, 0): 97", x.asks(1, 1, 3, 0), 97);
        due(8, "asks(1, 2, 3, 0): 197 is above", x.asks(1, 2, 3, 0), 99);
        due(8, "asks(2, 0, 0, 0): -100 is below", x.asks(2, 0, 0, 0), 0);
        due(8, "asks(2, 0, 50, 0)", x.asks(2, 0, 50, 0), 400);
        due(8, "asks(2, 0, 400, 0): 3900 is above", x.asks(2, 0, 400, 0), 999);
        due(8, "asks(2, 0, 401, 0)", x.asks(2, 0, 401, 0), -2);
        due(8, "asks(2, 0, -1, 0)", x.asks(2, 0, -1, 0), -2);
        due(8, "asks(2, 2, 0, 0): no such one", x.asks(2, 2, 0, 0), -2);
        due(8, "asks(0, 2, 0, 0): no such one", x.asks(0, 2, 0, 0), -2);
        due(8, "asks(0, 0, -1, 0)", x.asks(0, 0, -1, 0), -2);
        due(8, "asks(0, 0, 1, 4)", x.asks(0, 0, 1, 4), -2);
        due(8, "asks(1, 2, 2, 0): alike", x.asks(1, 2, 2, 0), -2);
        due(8, "asks(1, 4, 2, 0)", x.asks(1, 4, 2, 0), -2);
        due(8, "asks(1, 0, -1, 0)", x.asks(1, 0, -1, 0), -2);
        due(8, "asks(3, 0, 1, 0)", x.asks(3, 0, 1, 0), -2);
        due(8, "asks(-1, 0, 1, 0)", x.asks(-1, 0, 1, 0), -2);
        OneForOne y = new OneForOne();
        y.person(0, 12, 530, 0);
        y.person(0, 12, 530, 0);
        read(y, "may base+hour+by;row at+hour+by+1;gain on+1;");
        y.force(1);
        due(8, "the others are 0 in may", y.asks(0, 1, 1, 3), 0);
        due(8, "the others are 0 in row", y.asks(1, 3, 2, 3), 1);
        due(8, "on is 0 in gain", y.asks(2, 1, 9, 3), 1);
    }

    // ---- people

    private static void person() {
        OneForOne x = new OneForOne();
        due(9, "person(-1, 0, 0, 0)", x.person(-1, 0, 0, 0), -2);
        due(9, "person(6, 0, 0, 0)", x.person(6, 0, 0, 0), -2);
        due(9, "person(0, -1, 0, 0)", x.person(0, -1, 0, 0), -2);
        due(9, "person(0, 14, 0, 0)", x.person(0, 14, 0, 0), -2);
        due(9, "person(0, 50, 0, 0)", x.person(0, 50, 0, 0), -2);
        due(9, "person(0, 0, -1, 0)", x.person(0, 0, -1, 0), -2);
        due(9, "person(0, 0, 10000, 0)", x.person(0, 0, 10000, 0), -2);
        due(9, "person(0, 0, 0, -1)", x.person(0, 0, 0, -1), -2);
        due(9, "person(0, 0, 0, 6)", x.person(0, 0, 0, 6), -2);
        due(9, "count(1) behind what was refused", x.count(1), 0);
        due(9, "person(5, 43, 9999, 5)", x.person(5, 43, 9999, 5), 0);
        due(9, "person(4, 40, 0, 0)", x.person(4, 40, 0, 0), 1);
        due(9, "person(3, 41, 0, 2)", x.person(3, 41, 0, 2), 2);
        due(9, "person(0, 40, 0, 0): 3 are ABOARD", x.person(0, 40, 0, 0), -3);
        due(9, "person(6, 40, 0, 0): BAD ahead of STATE", x.person(6, 40, 0, 0), -2);
        due(9, "person(0, 33, 0, 0)", x.person(0, 33, 0, 0), 3);
        due(9, "person(1, 0, 0, 0)", x.person(1, 0, 0, 0), 4);
        due(9, "person(2, 0, 0, 0)", x.person(2, 0, 0, 0), 5);
        due(9, "person(2, 0, 0, 0): 6 are there", x.person(2, 0, 0, 0), -4);
        due(9, "person(2, 40, 0, 0): FULL ahead of STATE", x.person(2, 40, 0, 0), -4);
        due(9, "person(2, 44, 0, 0): BAD ahead of FULL", x.person(2, 44, 0, 0), -2);
    }

    private static void foe() {
        OneForOne x = new OneForOne();
        x.person(0, 0, 0, 0);
        x.person(0, 0, 0, 0);
        x.person(0, 0, 0, 0);
        due(10, "foe(0, 2, 1)", x.foe(0, 2, 1), 0);
        due(10, "foe(2, 0, 1)", x.foe(2, 0, 1), 1);
        due(10, "FOES of 0", x.told(0, 6), 4);
        due(10, "FOES of 1", x.told(1, 6), 0);
        due(10, "FOES of 2", x.told(2, 6), 1);
        due(10, "foe(1, 2, 0)", x.foe(1, 2, 0), 0);
        due(10, "foe(2, 0, 0)", x.foe(2, 0, 0), 1);
        due(10, "FOES of 0 then", x.told(0, 6), 0);
        due(10, "foe(0, 2, 0)", x.foe(0, 2, 0), 0);
        x.foe(0, 1, 1);
        x.foe(2, 1, 1);
        due(10, "FOES of 1 are both", x.told(1, 6), 5);
        x.foe(1, 0, 0);
        due(10, "FOES of 1, the other one stays", x.told(1, 6), 4);
        due(10, "FOES of 2, the other one stays", x.told(2, 6), 2);
        x.foe(0, 1, 1);
        x.foe(1, 2, 0);
        due(10, "FOES of 1, the first stays", x.told(1, 6), 1);
        x.foe(0, 1, 0);
        due(10, "foe(1, 1, 1)", x.foe(1, 1, 1), -1);
        due(10, "foe(0, 3, 1)", x.foe(0, 3, 1), -1);
        due(10, "foe(-1, 0, 1)", x.foe(-1, 0, 1), -1);
        due(10, "foe(0, 0, 2): NONE ahead of BAD", x.foe(0, 0, 2), -1);
        due(10, "foe(0, 1, 2)", x.foe(0, 1, 2), -2);
        due(10, "foe(0, 1, -1)", x.foe(0, 1, -1), -2);
    }

    private static void told() {
        OneForOne x = new OneForOne();
        x.person(0, 0, 0, 0);
        x.person(4, 42, 9807, 5);
        x.foe(0, 1, 1);
        int[] of = {4, 4, 2, 98, 7, 5, 1};
        for (int what = 0; what < 7; what++) {
            due(11, "told(1, " + what + ")", x.told(1, what), of[what]);
        }
        due(11, "told(1, 7)", x.told(1, 7), -7);
        due(11, "told(1, -1)", x.told(1, -1), -7);
        due(11, "told(2, 7): -5 ahead of -7", x.told(2, 7), -5);
        due(11, "told(-1, 0)", x.told(-1, 0), -5);
    }

    private static void put() {
        OneForOne x = new OneForOne();
        for (int p = 0; p < 4; p++) {
            x.person(0, 10 * p, 0, 0);
        }
        due(12, "put(0, 4)", x.put(0, 4), 0);
        due(12, "put(1, 4)", x.put(1, 4), 1);
        due(12, "put(2, 4)", x.put(2, 4), 2);
        due(12, "put(3, 4): 3 others are ABOARD", x.put(3, 4), -3);
        due(12, "told(3, 1), not changed", x.told(3, 1), 3);
        due(12, "put(2, 4): 2 others are", x.put(2, 4), 4);
        due(12, "put(2, 1)", x.put(2, 1), 4);
        due(12, "put(2, 3)", x.put(2, 3), 1);
        due(12, "put(2, 5)", x.put(2, 5), -7);
        due(12, "put(2, -1)", x.put(2, -1), -7);
        due(12, "put(4, 9): -5 ahead of -7", x.put(4, 9), -5);
        due(12, "put(-1, 0)", x.put(-1, 0), -5);
    }

    private static void may() {
        OneForOne x = new OneForOne();
        x.person(0, 40, 0, 0);
        x.person(0, 1, 0, 0);
        x.person(0, 11, 0, 0);
        due(13, "may(0, 1)", x.may(0, 1), 1);
        due(13, "may(1, 0): 1 isn't ABOARD", x.may(1, 0), 0);
        due(13, "may(0, 2): 2 isn't where THE BOAT is", x.may(0, 2), 0);
        due(13, "may(0, 0)", x.may(0, 0), 0);
        due(13, "may(0, 3)", x.may(0, 3), -5);
        due(13, "may(-1, 1)", x.may(-1, 1), -5);
        x.moor(1);
        due(13, "may(0, 1) elsewhere", x.may(0, 1), 0);
        due(13, "may(0, 2) there", x.may(0, 2), 1);
        read(x, "may at=0;row 1;gain 1;");
        x.force(1);
        due(13, "may(0, 2) by THE LAW", x.may(0, 2), 0);
        x.moor(0);
        due(13, "may(0, 1) by THE LAW", x.may(0, 1), 1);
    }

    private static void mayKinds() {
        OneForOne x = new OneForOne();
        x.person(1, 43, 0, 0);
        x.person(0, 0, 0, 0);
        due(13, "a GOAT isn't left alone", x.may(0, 1), 0);
        x.person(0, 0, 0, 0);
        due(13, "a GOAT is left with another one", x.may(0, 1), 1);
        x.put(2, 1);
        x.put(1, 3);
        x.moor(3);
        due(13, "a GOAT is left alone at TO", x.may(0, 1), 1);

        OneForOne c = new OneForOne();
        c.person(2, 40, 0, 0);
        c.person(0, 0, 0, 0);
        due(13, "a CHILD can't stand alone, at TO neither", c.may(0, 1), 0);
        c.person(4, 0, 0, 0);
        due(13, "a CHILD stands with another one", c.may(0, 1), 1);
        due(13, "KNITTING boards", c.may(0, 2), 1);

        OneForOne s = new OneForOne();
        s.person(0, 40, 0, 0);
        s.person(5, 0, 0, 0);
        s.person(0, 0, 0, 0);
        due(13, "a TWIN stands with the one put OFF", s.may(0, 2), 1);
        due(13, "a TWIN doesn't board if OTHER goes", s.may(0, 1), 0);
        s.person(0, 40, 0, 0);
        due(13, "a TWIN boards if OTHER stays", s.may(3, 1), 1);
        due(13, "a TWIN doesn't board if OTHER goes, another one stays", s.may(0, 1), 0);
        s.foe(0, 1, 1);
        due(13, "a TWIN doesn't board with its FOE", s.may(3, 1), 0);

        OneForOne k = new OneForOne();
        k.person(4, 40, 0, 0);
        k.person(3, 40, 0, 0);
        k.person(0, 0, 0, 0);
        due(13, "KNITTING doesn't leave", k.may(0, 2), 0);
        due(13, "PAID leaves", k.may(1, 2), 1);
        k.foe(0, 2, 1);
        due(13, "a FOE is in THE BOAT", k.may(1, 2), 0);
        k.foe(0, 2, 0);
        k.foe(1, 2, 1);
        due(13, "a FOE is just put OFF", k.may(1, 2), 1);
        due(13, "TWIN is a CHILD", twinAlone(), 0);
    }

    private static int twinAlone() {
        OneForOne x = new OneForOne();
        x.person(5, 40, 0, 0);
        x.person(0, 0, 0, 0);
        return x.may(0, 1);
    }

    private static void alone() {
        OneForOne x = new OneForOne();
        x.person(2, 0, 0, 0);
        due(14, "a CHILD alone", x.alone(), 1);
        x.person(5, 30, 0, 0);
        due(14, "a TWIN alone, too", x.alone(), 9);
        x.person(1, 10, 0, 0);
        x.person(0, 30, 0, 0);
        due(14, "with another one", x.alone(), 1);
        x.put(0, 4);
        due(14, "ABOARD it needn't stand", x.alone(), 0);
        x.put(0, 2);
        x.put(1, 2);
        due(14, "two of them are others", x.alone(), 0);
    }

    // ---- moves

    private static void move() {
        OneForOne x = new OneForOne();
        due(15, "move(-1, 0, 0)", x.move(-1, 0, 0), -2);
        due(15, "move(3, 0, 0)", x.move(3, 0, 0), -2);
        due(15, "move(0, 4, 0)", x.move(0, 4, 0), -2);
        due(15, "move(0, -1, 0)", x.move(0, -1, 0), -2);
        due(15, "move(0, 0, 6)", x.move(0, 0, 6), -2);
        due(15, "move(1, 6, 0)", x.move(1, 6, 0), -2);
        due(15, "move(1, 0, 6)", x.move(1, 0, 6), -2);
        due(15, "move(1, 0, -1)", x.move(1, 0, -1), -2);
        due(15, "move(2, 100, 0)", x.move(2, 100, 0), -2);
        due(15, "move(2, -1, 0)", x.move(2, -1, 0), -2);
        due(15, "move(2, 5, 6)", x.move(2, 5, 6), -2);
        int[][] good = {{0, 3, 5}, {1, 5, 5}, {2, 99, 5}, {2, 0, 0}};
        for (int k = 0; k < 16; k++) {
            int[] m = good[k % 4];
            due(15, "move the " + k + "th", x.move(m[0], m[1], m[2]), k);
        }
        due(15, "move when full", x.move(0, 0, 0), -4);
        due(15, "move, BAD ahead of FULL", x.move(0, 4, 0), -2);
        due(15, "count(3)", x.count(3), 16);
    }

    private static void clearAndJudge() {
        OneForOne x = ferry();
        due(17, "judge() without moves", x.judge(), -1);
        due(16, "clear() without moves", x.clear(), 0);
        x.move(2, 0, 0);
        x.move(0, 1, 0);
        x.move(0, 0, 0);
        x.move(1, 0, 1);
        due(17, "judge(), all may be", x.judge(), -1);
        x.move(0, 0, 0);
        due(17, "judge(), THE BOAT is there", x.judge(), 4);
        x.move(1, 0, 1);
        due(17, "judge(), still the first", x.judge(), 4);
        due(16, "clear()", x.clear(), 6);
        due(16, "count(3)", x.count(3), 0);
        due(16, "clear() again", x.clear(), 0);
        x.move(1, 0, 5);
        due(17, "judge(), no such one", x.judge(), 0);
        x.clear();
        x.move(0, 0, 0);
        x.move(1, 0, 1);
        x.move(1, 1, 0);
        x.move(1, 1, 2);
        due(17, "judge(), THE BOAT is there at first", x.judge(), 0);
    }

    private static void run() {
        OneForOne x = ferry();
        x.move(1, 0, 1);
        x.move(0, 2, 0);
        x.move(1, 1, 2);
        x.move(1, 1, 0);
        x.move(2, 1, 0);
        x.move(0, 0, 0);
        x.move(1, 2, 0);
        int[] hours = {0, 0, 2, 2, 2, 3, 5, 5};
        int[] boats = {0, 0, 2, 2, 2, 2, 0, 0};
        int[] there = {1, 1, 1, 3, 3, 3, 3, 7};
        int[] gains = {0, 0, 0, 30, 30, 30, 30, 30};
        for (int n = 0; n <= 7; n++) {
            due(18, "run(" + n + ", 0)", x.run(n, 0), hours[n]);
            due(18, "run(" + n + ", 1)", x.run(n, 1), boats[n]);
            due(18, "run(" + n + ", 2)", x.run(n, 2), there[n]);
            due(18, "run(" + n + ", 3)", x.run(n, 3), gains[n]);
        }
        due(18, "run(8, 0)", x.run(8, 0), -5);
        due(18, "run(-1, 0)", x.run(-1, 0), -5);
        due(18, "run(8, 9): -5 ahead of -7", x.run(8, 9), -5);
        due(18, "run(7, 4)", x.run(7, 4), -7);
        due(18, "run(7, -1)", x.run(7, -1), -7);
        due(18, "what is told is not changed", x.count(0) + 10 * x.told(1, 1) + 100 * x.told(0, 1), 400);
        x.clear();
        x.put(2, 0);
        due(18, "at TO, but behind no MOVE", x.run(0, 3), 0);
        x.move(2, 4, 0);
        due(18, "at TO behind the first MOVE, at hour 4", x.run(1, 3), 50);
        x.clear();
        x.move(2, 5, 0);
        due(18, "at TO behind the first MOVE, at hour 5: too late", x.run(1, 3), 0);
        x.clear();
        x.move(2, 0, 0);
        x.move(1, 0, 2);
        x.move(2, 9, 0);
        x.move(1, 2, 0);
        due(18, "gone and come back: only the first counts", x.run(4, 3), 50);
        OneForOne y = new OneForOne();
        y.person(0, 40, 917, 0);
        y.person(0, 1, 905, 0);
        y.person(3, 10, 903, 0);
        y.move(0, 0, 0);
        y.move(1, 0, 1);
        y.move(0, 1, 0);
        y.move(1, 1, 2);
        y.move(0, 0, 0);
        y.move(1, 2, 0);
        due(18, "all who came", y.run(5, 3), 22);
        due(18, "all who came, PAID too at TO", y.run(6, 3), 25);
        due(18, "one who has gone is not THERE", y.run(6, 2), 6);
    }

    private static void where() {
        OneForOne x = ferry();
        x.move(1, 0, 1);
        x.move(0, 2, 0);
        x.move(1, 1, 2);
        int[][] places = {{4, 0, 2}, {0, 4, 2}, {0, 4, 2}, {0, 2, 4}};
        for (int n = 0; n < 4; n++) {
            for (int p = 0; p < 3; p++) {
                due(19, "where(" + n + ", " + p + ")", x.where(n, p), places[n][p]);
            }
        }
        due(19, "where(4, 0)", x.where(4, 0), -5);
        due(19, "where(-1, 0)", x.where(-1, 0), -5);
        due(19, "where(0, 3)", x.where(0, 3), -5);
        due(19, "where(0, -1)", x.where(0, -1), -5);
    }

    // ---- all that can be come to

    private static void all() {
        OneForOne x = ferry();
        due(20, "all(0)", x.all(0), 4);
        due(20, "all(1)", x.all(1), 3);
        due(20, "all(2)", x.all(2), 2);
        due(20, "all(3)", x.all(3), -2);
        due(20, "all(-1)", x.all(-1), -2);
        x.far(0, 2, 1);
        due(20, "all(0) by a shorter way", x.all(0), 2);
        x.far(0, 2, 9);
        due(20, "all(0) by landing 1", x.all(0), 4);
        x.moor(1);
        due(20, "all(0) from landing 1", x.all(0), 5);
        x.moor(0);
        due(20, "all(0) from landing 0", x.all(0), 4);
        x.foe(1, 2, 1);
        due(20, "all(0), FOES don't meet in THE BOAT", x.all(0), 4);
        x.person(4, 40, 0, 0);
        due(20, "all(0), one knits", x.all(0), 4);
        x.foe(1, 3, 1);
        due(20, "all(0), one knits who is a FOE", x.all(0), -1);
        x.foe(1, 3, 0);
        due(20, "all(0), no FOE any more", x.all(0), 4);
        due(20, "all(1), another question", x.all(1), 3);
        due(20, "all(0) behind it", x.all(0), 4);
        x.image();
        x.put(1, 2);
        x.put(2, 0);
        due(20, "all(0), ALL put there", x.all(0), 0);
        x.back();
        due(20, "all(0), back", x.all(0), 4);
        due(20, "all(2) straight", x.all(2), 2);
        x.moor(2);
        due(20, "all(0) from landing 2", x.all(0), 4);
        x.put(0, 0);
        due(20, "all(0) with nobody ABOARD", x.all(0), -1);
        due(20, "all(1) with nobody ABOARD", x.all(1), -1);
        due(20, "all(2) with nobody ABOARD", x.all(2), -1);
        OneForOne y = longFerry();
        due(20, "all(0) of five", y.all(0), 8);
        due(20, "all(1) of five", y.all(1), 6);
        due(20, "all(2) of five", y.all(2), 5);
        y.put(0, 0);
        y.put(1, 2);
        y.put(2, 0);
        y.put(3, 3);
        y.put(4, 1);
        due(20, "all(0), ALL are THERE", y.all(0), 0);
    }

    private static void allAbove400() {
        OneForOne x = longFerry();
        read(x, "may 1;row 80;gain 1;");
        read(x, "may 1;row 81;gain 1;");
        x.force(1);
        due(20, "all(0), just 400 hours", x.all(0), 400);
        x.force(2);
        due(20, "all(0), 405 hours are too many", x.all(0), -1);
        due(20, "all(1), few swaps", x.all(1), 6);
        due(20, "all(2), few rowings", x.all(2), 5);
        due(25, "gap(), 405 hours are too many", x.gap(), -1);
        due(28, "laws(), 405 hours are too many", x.laws(), 3);
    }

    private static void soonest() {
        OneForOne x = ferry();
        due(21, "soonest(0), PAID isn't at TO at first, but by a swap", x.soonest(0), 0);
        due(21, "soonest(1)", x.soonest(1), 2);
        due(21, "soonest(2)", x.soonest(2), 4);
        due(21, "soonest(3)", x.soonest(3), -5);
        due(21, "soonest(-1)", x.soonest(-1), -5);
        OneForOne y = new OneForOne();
        y.person(4, 40, 0, 0);
        y.person(0, 11, 0, 0);
        due(21, "soonest of one who knits on board", y.soonest(0), -1);
        due(21, "soonest of one who is at TO", y.soonest(1), 0);
    }

    private static void never() {
        OneForOne x = ferry();
        due(22, "never(0)", x.never(0), 0);
        due(22, "never(1): 3 people in 3 places, and 4 landings", x.never(1), 24);
        due(22, "never(2)", x.never(2), -2);
        due(22, "never(-1)", x.never(-1), -2);
        OneForOne y = new OneForOne();
        due(22, "never(0) without people", y.never(0), 0);
        due(22, "never(1) without people", y.never(1), 4);
        y.person(4, 40, 0, 0);
        y.person(0, 12, 0, 0);
        y.person(0, 33, 0, 0);
        due(22, "never(0), KNITTING is THERE, 1 never", y.never(0), 2);
        due(22, "never(1), only THE BOAT moves", y.never(1), 4);
        OneForOne z = new OneForOne();
        read(z, "may 1;row 99*(1-(on=1))+1;gain 1;");
        z.force(1);
        due(22, "never(1) by slow rows", z.never(1), 4);
        due(22, "never(1) of five: 5! times 4", longFerry().never(1), 480);
        OneForOne four = ferry();
        four.person(0, 10, 0, 0);
        due(22, "never(1) of four in four places: 4! times 4", four.never(1), 96);
        OneForOne lost = new OneForOne();
        lost.person(0, 12, 0, 0);
        lost.person(0, 22, 0, 0);
        due(22, "never(0), 0 never", lost.never(0), 1);
        OneForOne full = new OneForOne();
        full.person(0, 40, 0, 0);
        full.person(0, 0, 0, 0);
        full.person(0, 0, 0, 0);
        full.person(0, 10, 0, 0);
        full.person(0, 20, 0, 0);
        full.person(0, 30, 0, 0);
        due(22, "never(1) of six: 6! / 2! times 4", full.never(1), 1440);
    }

    private static void best() {
        OneForOne x = ferry();
        int[] most = {0, 0, 30, 30, 80, 80};
        int[] fewest = {0, 0, 2, 2, 4, 4};
        for (int hour = 0; hour < 6; hour++) {
            due(23, "best(" + hour + ", 0)", x.best(hour, 0), most[hour]);
            due(23, "best(" + hour + ", 1)", x.best(hour, 1), fewest[hour]);
        }
        due(23, "best(400, 0)", x.best(400, 0), 80);
        due(23, "best(400, 1)", x.best(400, 1), 4);
        due(23, "best(401, 0)", x.best(401, 0), -2);
        due(23, "best(-1, 0)", x.best(-1, 0), -2);
        due(23, "best(0, 2)", x.best(0, 2), -2);
        due(23, "best(0, -1)", x.best(0, -1), -2);
        OneForOne late = new OneForOne();
        late.person(3, 40, 0, 0);
        late.person(0, 3, 250, 0);
        late.person(0, 30, 0, 0);
        due(23, "one comes too late for any gain", late.best(400, 0), 0);
        due(23, "the fewest hours of no gain", late.best(400, 1), 0);
        OneForOne paid = new OneForOne();
        paid.person(3, 2, 50, 0);
        due(23, "PAID gains only at TO", paid.best(9, 0), 0);
        paid.put(0, 2);
        due(23, "PAID gains at TO", paid.best(9, 0), 50);
    }

    // ---- bounds

    private static void bound() {
        OneForOne x = ferry();
        due(24, "bound(): to 2 and from there back", x.bound(), 4);
        x.put(2, 0);
        due(24, "bound(): only 1", x.bound(), 2);
        x.put(2, 4);
        x.moor(3);
        due(24, "bound(): 1 from 3 by 0 to 2, or 2 ABOARD to 0", x.bound(), 5);
        x.put(1, 2);
        due(24, "bound(): 2 ABOARD", x.bound(), 3);
        x.far(3, 0, 9);
        due(24, "bound() by other landings", x.bound(), 3);
        x.put(2, 0);
        due(24, "bound(): PAID is THERE", x.bound(), 0);
        due(24, "bound() without people", new OneForOne().bound(), 0);
        OneForOne y = new OneForOne();
        y.person(0, 13, 0, 0);
        due(24, "bound() of the first: to 1 and on to 3", y.bound(), 3);
    }

    private static void gap() {
        OneForOne x = ferry();
        due(25, "gap()", x.gap(), 0);
        due(25, "gap() of five: 8 less 5", longFerry().gap(), 3);
        x.put(0, 1);
        due(25, "gap(), never", x.gap(), -1);
        due(25, "gap() without people", new OneForOne().gap(), 0);
    }

    private static void way() {
        OneForOne x = new OneForOne();
        due(26, "way(0, 3)", x.way(0, 3), 3);
        due(26, "way(2, 2)", x.way(2, 2), 0);
        x.far(0, 3, 9);
        due(26, "way(0, 3) by others", x.way(0, 3), 3);
        x.far(1, 2, 9);
        due(26, "way(1, 2) by 0, 1+2", x.way(1, 2), 3);
        x.far(0, 2, 1);
        due(26, "way(1, 2) by 0, 1+1", x.way(1, 2), 2);
        due(26, "way(4, 0)", x.way(4, 0), -5);
        due(26, "way(0, -1)", x.way(0, -1), -5);
        read(x, "may 1;row 1+10*(off<on);gain 1;");
        x.force(1);
        due(26, "way(0, 3), upward", x.way(0, 3), 11);
        due(26, "way(3, 0), downward", x.way(3, 0), 1);
    }

    // ---- what would help

    private static void help() {
        OneForOne x = new OneForOne();
        x.person(0, 41, 510, 0);
        due(27, "help(0): somebody must be taken on at 1", x.help(0), 1);
        due(27, "help(1)", x.help(1), 1);
        due(27, "help(2)", x.help(2), -2);
        due(27, "help(-1)", x.help(-1), -2);
        due(27, "count(1), nobody came", x.count(1), 1);
        x.person(3, 10, 0, 0);
        due(27, "help(0), it isn't so", x.help(0), -1);
        due(27, "help(1), it isn't so", x.help(1), -1);
        OneForOne at = new OneForOne();
        at.person(0, 40, 0, 0);
        due(27, "help(0), at landing 0", at.help(0), 0);
        due(27, "help(1), at once", at.help(1), 0);
        OneForOne far = new OneForOne();
        far.person(0, 43, 0, 0);
        due(27, "help(0), at landing 3", far.help(0), 3);
        due(27, "help(1), in 3 hours", far.help(1), 3);
        far.far(0, 3, 9);
        far.far(1, 3, 9);
        far.far(2, 3, 9);
        due(27, "help(0), later", far.help(0), 3);
        due(27, "help(1), later", far.help(1), 9);
        far.put(0, 3);
        due(27, "help(0), ALL are THERE", far.help(0), -1);
        due(27, "help(1), ALL are THERE", far.help(1), -1);
        OneForOne y = new OneForOne();
        y.person(4, 40, 0, 0);
        y.person(0, 1, 0, 0);
        due(27, "help(0), none helps", y.help(0), -1);
        due(27, "help(1), none helps", y.help(1), -1);
        OneForOne law = new OneForOne();
        law.person(0, 41, 510, 0);
        read(law, "may on=1 and at=3 or at=1 and on=2;row base;gain 1;");
        law.force(1);
        due(27, "help(0): the law speaks of one PAID more by number", law.help(0), -1);
        for (int p = 1; p < 6; p++) {
            x.person(0, 22, 0, 0);
        }
        due(27, "help(0): there are 6", x.help(0), -3);
        due(27, "help(2): BAD ahead of STATE", x.help(2), -2);
    }

    private static void laws() {
        OneForOne x = ferry();
        due(28, "laws()", x.laws(), 1);
        read(x, "may 0;row 1;gain 1;");
        read(x, "may off<on;row 1;gain 1;");
        read(x, "may 1;row 200;gain 1;");
        due(28, "laws() of four", x.laws(), 9);
        x.force(1);
        due(28, "laws(), whichever is THE LAW", x.laws(), 9);
        due(28, "count(5), not changed", x.count(5), 1);
        due(28, "all(0), THE LAW still holds", x.all(0), -1);
        x.put(1, 2);
        x.put(2, 0);
        due(28, "laws(), ALL are THERE", x.laws(), 15);
        x.put(1, 4);
        due(28, "laws(), never by any", x.laws(), 0);
    }

    private static void join() {
        OneForOne x = ferry();
        due(29, "join(0, 2)", x.join(0, 2), 2);
        due(29, "join(2, 0)", x.join(2, 0), 2);
        due(29, "join(1, 3)", x.join(1, 3), 4);
        due(29, "join(0, 3)", x.join(0, 3), 4);
        due(29, "HOURS are not changed", x.far(0, 2, 2), 2);
        due(29, "all(0), not changed", x.all(0), 4);
        due(29, "join(1, 1)", x.join(1, 1), -5);
        due(29, "join(4, 1)", x.join(4, 1), -5);
        due(29, "join(0, -1)", x.join(0, -1), -5);
        read(x, "may 1;row base*10;gain 1;");
        x.force(1);
        due(29, "join(0, 2), HOURS are 1, row is 10", x.join(0, 2), 20);
        x.put(0, 1);
        due(29, "join, never", x.join(0, 2), -1);
    }

    private static void leave() {
        OneForOne x = ferry();
        due(30, "leave(0)", x.leave(0), 2);
        due(30, "leave(1)", x.leave(1), 2);
        due(30, "leave(2)", x.leave(2), -2);
        due(30, "leave(-1)", x.leave(-1), -2);
        x.far(0, 2, 9);
        x.far(1, 2, 9);
        due(30, "leave(0), a longer way", x.leave(0), 2);
        due(30, "leave(1), a longer way by 3", x.leave(1), 4);
        x.put(1, 2);
        x.put(2, 0);
        due(30, "leave(0), ALL are THERE: the first of like ones", x.leave(0), 0);
        due(30, "leave(1), ALL are THERE", x.leave(1), 0);
        OneForOne y = new OneForOne();
        due(30, "leave(0) without people", y.leave(0), -1);
        y.person(0, 41, 0, 0);
        y.person(0, 10, 0, 0);
        due(30, "leave(0), 1 stays ABOARD for ever", y.leave(0), 1);
        due(30, "leave(1), 1 stays ABOARD for ever", y.leave(1), 1);
        y.person(0, 23, 0, 0);
        due(30, "leave(0), by none", y.leave(0), -1);
        due(30, "leave(1), by none", y.leave(1), -1);
    }

    private static void first() {
        OneForOne x = ferry();
        due(31, "first()", x.first(), 1);
        x.moor(2);
        due(31, "first() at 2", x.first(), 2);
        x.person(0, 22, 0, 0);
        due(31, "first() isn't the one who must not go", x.first(), 2);
        x.put(0, 1);
        due(31, "first(), they never are", x.first(), -1);
        OneForOne y = new OneForOne();
        due(31, "first() without people", y.first(), -1);
        y.person(3, 40, 0, 0);
        y.person(0, 0, 0, 0);
        due(31, "first(), ALL are THERE, and again behind it", y.first(), 1);
        read(y, "may off<on;row 1;gain 1;");
        y.force(1);
        due(31, "first(), ALL are THERE, but never again", y.first(), -1);
        due(31, "all(0) behind first()", y.all(0), 0);
        due(31, "never(1) behind first()", y.never(1), 8);
        OneForOne z = new OneForOne();
        z.person(0, 2, 0, 0);
        z.person(3, 43, 0, 0);
        z.person(3, 43, 0, 0);
        due(31, "first(), nobody is there to be taken on", z.first(), -1);
        z.person(3, 20, 0, 0);
        due(31, "first(), of two ABOARD the first", z.first(), 10);
        read(z, "may off=2 or at=2;row 1;gain 1;");
        z.force(1);
        due(31, "first(), of two ABOARD the second", z.first(), 20);
    }

    // ---- moves by lot

    private static void drawn() {
        OneForOne x = new OneForOne();
        due(32, "drawn(7, 0, 2)", x.drawn(7, 0, 2), 0);
        due(32, "drawn(7, 1, 2): 8 * 48271 = 386168, 2 over 3: landing 3", x.drawn(7, 1, 2), 3);
        due(32, "drawn(7, 1, 1)", x.drawn(7, 1, 1), 3);
        due(32, "drawn(7, 2, 2): LOT 1460846352, 0 over 3: landing 0", x.drawn(7, 2, 2), 0);
        due(32, "drawn(7, 2, 1)", x.drawn(7, 2, 1), 6);
        due(32, "drawn(0, 1, 2): 48271, 1 over 3: landing 2", x.drawn(0, 1, 2), 2);
        due(32, "drawn(99999, 1, 2): 100000 * 48271 modulo, 2 over 3", x.drawn(99999, 1, 2),
            1 + (int) (100000L * 48271 % 2147483647 % 3));
        due(32, "drawn(2, 1, 2): 144813, 0 over 3: landing 1", x.drawn(2, 1, 2), 1);
        int rows = 0;
        int at = 0;
        long lot = 12346;
        for (int k = 0; k < 40; k++) {
            lot = lot * 48271 % 2147483647;
            int l = (int) (lot % 3);
            l += l < at ? 0 : 1;
            rows += Math.abs(l - at);
            at = l;
        }
        due(32, "drawn(12345, 40, 1)", x.drawn(12345, 40, 1), rows);
        due(32, "drawn(12345, 40, 2)", x.drawn(12345, 40, 2), at);
        due(32, "drawn(-1, 0, 0)", x.drawn(-1, 0, 0), -2);
        due(32, "drawn(100000, 0, 0)", x.drawn(100000, 0, 0), -2);
        due(32, "drawn(0, 41, 0)", x.drawn(0, 41, 0), -2);
        due(32, "drawn(0, -1, 0)", x.drawn(0, -1, 0), -2);
        due(32, "drawn(0, 0, 3)", x.drawn(0, 0, 3), -2);
        due(32, "drawn(0, 0, -1)", x.drawn(0, 0, -1), -2);
        OneForOne y = ferry();
        due(32, "drawn(7, 0, 0), PAID is THERE", y.drawn(7, 0, 0), 1);
        due(32, "drawn(7, 1, 2): 386168, 0 over 4: the swap", y.drawn(7, 1, 2), 0);
        due(32, "drawn(7, 2, 2): 1460846352, 0 over 4: the swap back", y.drawn(7, 2, 1), 0);
        due(32, "drawn(1, 1, 2): 96542, 2 over 4: landing 2", y.drawn(1, 1, 2), 2);
        due(32, "what is told is not changed", y.count(0), 0);
        OneForOne z = new OneForOne();
        z.person(0, 40, 0, 0);
        z.person(0, 40, 0, 0);
        z.person(0, 1, 0, 0);
        due(32, "drawn(4, 1, 0): 241355, 0 over 5: 0 OFF", z.drawn(4, 1, 0), 1);
        due(32, "drawn(0, 1, 0): 48271, 1 over 5: 1 OFF", z.drawn(0, 1, 0), 2);
        due(32, "drawn(1, 1, 2): 96542, 2 over 5: landing 1", z.drawn(1, 1, 2), 1);
    }

    private static void chance() {
        OneForOne x = ferry();
        x.put(2, 0);
        long no = OneForOne.NO;
        due(33, "chance(0, 7, 110, 0), PAID", x.chance(0, 7, 110, 0), 1);
        due(33, "chance(0, 7, 2040, 1), PAID", x.chance(0, 7, 2040, 1), 1);
        due(33, "chance(1, 7, 500, 0), not THERE", x.chance(1, 7, 500, 0), 0);
        due(33, "chance(1, 7, 500, 1), not THERE", x.chance(1, 7, 500, 1), 1);
        due(33, "chance(2, 99999, 500, 0): seeds pass 99999", x.chance(2, 99999, 500, 0), 1);
        int there = 0;
        for (int seed = 40; seed < 60; seed++) {
            there += x.drawn(seed, 3, 0) >> 2 & 1;
        }
        long above = x.chance(2, 40, 2003, 0);
        long below = x.chance(2, 40, 2003, 1);
        due(33, "chance(2, 40, 2003) is drawn()'s part", above * 20, there * below);
        due(33, "some are, some are not", there > 0 && there < 20 ? 1 : 0, 1);
        for (long d = 2; d <= 20; d++) {
            due(33, "in lowest terms", above % d == 0 && below % d == 0 ? d : 0, 0);
        }
        due(33, "chance of seed 0", x.chance(0, 0, 110, 0), 1);
        due(33, "chance behind no moves", x.chance(2, 0, 100, 0), 1);
        due(33, "chance(3, ..): no such one", x.chance(3, 7, 110, 0), no);
        due(33, "chance(-1, ..)", x.chance(-1, 7, 110, 0), no);
        due(33, "chance of seed -1", x.chance(0, -1, 110, 0), no);
        due(33, "chance of seed 100000", x.chance(0, 100000, 110, 0), no);
        due(33, "chance of no seeds", x.chance(0, 7, 40, 0), no);
        due(33, "chance of 21 seeds", x.chance(0, 7, 2100, 0), no);
        due(33, "chance of 41 moves", x.chance(0, 7, 141, 0), no);
        due(33, "chance of how below 0", x.chance(0, 7, -110, 0), no);
        due(33, "chance of part 2", x.chance(0, 7, 110, 2), no);
        due(33, "chance of part -1", x.chance(0, 7, 110, -1), no);
    }

    private static void image() {
        OneForOne x = ferry();
        due(34, "image()", x.image(), 3);
        x.person(0, 0, 0, 0);
        due(34, "image() again", x.image(), 4);
        due(34, "image() without people", new OneForOne().image(), 0);
    }

    private static void back() {
        OneForOne x = ferry();
        due(35, "back() without an image", x.back(), -3);
        read(x, "may 1;row 1;gain 1;");
        x.foe(0, 1, 1);
        x.far(0, 1, 5);
        x.moor(1);
        x.move(2, 3, 0);
        x.image();
        x.force(1);
        x.foe(0, 1, 0);
        x.foe(0, 2, 1);
        x.far(0, 1, 7);
        x.far(2, 3, 7);
        x.moor(2);
        x.put(0, 0);
        x.put(2, 3);
        x.person(0, 33, 0, 0);
        x.foe(2, 3, 1);
        x.move(2, 4, 0);
        x.feed(2, 32, 32, 0, 0, 0);
        read(x, "may 1;row 1;gain 1;");
        x.feed(2, 32, 32, 0, 0, 0);
        due(35, "back()", x.back(), 3);
        due(35, "PEOPLE", x.count(1), 3);
        due(35, "told(3, 0)", x.told(3, 0), -5);
        due(35, "where 0 is", x.told(0, 1), 4);
        due(35, "where 2 is", x.told(2, 1), 2);
        due(35, "THE BOAT", x.count(0), 1);
        due(35, "FOES of 0", x.told(0, 6), 2);
        due(35, "FOES of 2", x.told(2, 6), 0);
        due(35, "THE LAW", x.count(5), 0);
        due(35, "HOURS from 0 to 1", x.far(0, 1, 9), 5);
        due(35, "HOURS from 3 to 2", x.far(3, 2, 9), 1);
        due(35, "MOVES stay", x.count(3), 2);
        due(35, "TEXTS stay", x.count(4), 3);
        due(35, "THE TAPE stays", x.count(6), 2);
        due(35, "a new one has no FOES", x.person(0, 0, 0, 0) + 10 * x.told(3, 6), 3);
        due(35, "back() again", x.back(), 3);
        due(35, "HOURS again", x.far(0, 1, 9), 5);
    }

    // ---- the host

    private static void sheet() {
        OneForOne x = new OneForOne();
        due(36, "sheet(4, 0, 1)", x.sheet(4, 0, 1), -2);
        due(36, "sheet(-1, 0, 1)", x.sheet(-1, 0, 1), -2);
        due(36, "sheet(0, 3, 1)", x.sheet(0, 3, 1), -2);
        due(36, "sheet(0, -2, 1)", x.sheet(0, -2, 1), -2);
        due(36, "sheet(0, 2, 41)", x.sheet(0, 2, 41), -2);
        due(36, "sheet(0, 2, -1)", x.sheet(0, 2, -1), -14);
        due(36, "sheet(0, 3, -1): BAD ahead of -14", x.sheet(0, 3, -1), -2);
        due(36, "sheet(0, -1, 99)", x.sheet(0, -1, 99), 1);
        due(36, "sheet(3, 2, 40)", x.sheet(3, 2, 40), 1);
        due(36, "cell(3, 39, 7)", x.cell(3, 39, 7), 1);
        due(36, "sheet(3, 2, -1) changes nothing", x.sheet(3, 2, -1), -14);
        due(36, "cell(3, 39, 7) still", x.cell(3, 39, 7), 1);
        due(36, "sheet(3, 2, 0)", x.sheet(3, 2, 0), 1);
        due(36, "cell(3, 0, 7) outside", x.cell(3, 0, 7), -12);
        due(36, "sheet(3, -1, 0)", x.sheet(3, -1, 0), 1);
        due(36, "cell(3, 0, 7) of a missing one", x.cell(3, 0, 7), -11);
        x.sheet(1, 2, 4);
        x.cell(1, 1, 33);
        x.sheet(1, 2, 4);
        x.peopleBy(1, 2, 0, 1);
        due(36, "all 0 again", x.told(0, 0) + x.told(0, 1) + x.told(0, 2) + x.told(0, 4) + x.told(0, 5), 0);
    }

    private static void cell() {
        OneForOne x = new OneForOne();
        due(37, "cell(4, 0, 0)", x.cell(4, 0, 0), -2);
        due(37, "cell(-1, 0, 0)", x.cell(-1, 0, 0), -2);
        due(37, "cell(0, 99, 0): -11 ahead of -12", x.cell(0, 99, 0), -11);
        for (int sort = 0; sort < 3; sort++) {
            x.sheet(sort, sort, 4);
            due(37, "cell(" + sort + ", 4, 0)", x.cell(sort, 4, 0), -12);
            due(37, "cell(" + sort + ", -1, 0)", x.cell(sort, -1, 0), -12);
            due(37, "cell(" + sort + ", 1, 12)", x.cell(sort, 1, 12), 1);
        }
        due(37, "cell(0, 2, 256 + 44): 44 in a byte", x.cell(0, 2, 300), 1);
        due(37, "its one comes", x.peopleBy(0, 0, 0, 1), 1);
        due(37, "its WORTH", x.told(0, 4), 44);
        due(37, "cell(1, 2, 65536 + 1234)", x.cell(1, 2, 66770), 1);
        due(37, "its one comes", x.peopleBy(1, 1, 0, 1), 1);
        due(37, "its BY", x.told(1, 3), 12);
        due(37, "cell(2, 2, 65536 + 1234)", x.cell(2, 2, 66770), 1);
        due(37, "of ints it is BAD", x.peopleBy(2, 2, 0, 1), 0);
        due(37, "cell(0, 2, 200), below 0 in a byte", x.cell(0, 2, 200), 1);
        due(37, "its one is left out", x.peopleBy(0, 0, 0, 1), 0);
        due(37, "cell(1, 2, 200)", x.cell(1, 2, 200), 1);
        due(37, "its one comes", x.peopleBy(1, 1, 0, 1), 1);
    }

    private static void copy() {
        OneForOne x = new OneForOne();
        due(38, "copy(4, 0, 0, 0, 0)", x.copy(4, 0, 0, 0, 0), -2);
        due(38, "copy(0, 0, -1, 0, 0)", x.copy(0, 0, -1, 0, 0), -2);
        x.sheet(0, 2, 8);
        x.sheet(1, 2, 4);
        x.sheet(2, 1, 8);
        due(38, "copy(0, 0, 3, 0, 1)", x.copy(0, 0, 3, 0, 1), -11);
        due(38, "copy(3, 0, 0, 0, 1)", x.copy(3, 0, 0, 0, 1), -11);
        due(38, "copy(0, 99, 3, 0, 1): -11 ahead of -12", x.copy(0, 99, 3, 0, 1), -11);
        due(38, "copy(0, 99, 2, 0, 1): -13 ahead of -12", x.copy(0, 99, 2, 0, 1), -13);
        due(38, "copy(0, 0, 2, 0, 0)", x.copy(0, 0, 2, 0, 0), -13);
        due(38, "copy(0, 5, 1, 0, 4)", x.copy(0, 5, 1, 0, 4), -12);
        due(38, "copy(0, 0, 1, 1, 4)", x.copy(0, 0, 1, 1, 4), -12);
        due(38, "copy(0, -1, 1, 0, 1)", x.copy(0, -1, 1, 0, 1), -12);
        due(38, "copy(0, 0, 1, -1, 1)", x.copy(0, 0, 1, -1, 1), -12);
        due(38, "copy(0, 0, 1, 0, -1)", x.copy(0, 0, 1, 0, -1), -12);
        due(38, "copy(0, 2147483647, 1, 0, 1)", x.copy(0, 2147483647, 1, 0, 1), -12);
        due(38, "copy(0, 1, 1, 0, 2147483647)", x.copy(0, 1, 1, 0, 2147483647), -12);
        due(38, "copy(0, 8, 1, 4, 0)", x.copy(0, 8, 1, 4, 0), 0);
        due(38, "copy(0, 9, 1, 4, 0)", x.copy(0, 9, 1, 4, 0), -12);
        int[] row = {1, 20, 345, 2, 0, 0, 0, 0};
        for (int i = 0; i < 8; i++) {
            x.cell(0, i, row[i]);
        }
        due(38, "copy(0, 0, 1, 0, 4)", x.copy(0, 0, 1, 0, 4), 4);
        x.peopleBy(1, 2, 0, 1);
        due(38, "what was copied", x.told(0, 0) + 10 * x.told(0, 1) + 100 * x.told(0, 4), 4521);
        due(38, "copy(0, 0, 0, 1, 7) onto itself, as they were", x.copy(0, 0, 0, 1, 7), 7);
        x.peopleBy(0, 2, 1, 1);
        due(38, "one place on", x.told(1, 0) + 10 * x.told(1, 1) + 100 * x.told(1, 4), 4521);
        due(38, "copy(0, 1, 0, 0, 7) back", x.copy(0, 1, 0, 0, 7), 7);
        x.peopleBy(0, 2, 0, 1);
        due(38, "as at first", x.told(2, 5) + 10 * x.told(2, 3), 32);
    }

    private static void peopleBy() {
        OneForOne x = new OneForOne();
        due(39, "peopleBy(4, ..)", x.peopleBy(4, 2, 0, 1), -2);
        due(39, "peopleBy(-1, ..)", x.peopleBy(-1, 2, 0, 1), -2);
        due(39, "peopleBy of sort 3", x.peopleBy(0, 3, 0, 1), -2);
        due(39, "peopleBy of sort -1", x.peopleBy(0, -1, 0, 1), -2);
        due(39, "peopleBy of 7", x.peopleBy(0, 2, 0, 7), -2);
        due(39, "peopleBy of -1", x.peopleBy(0, 2, 0, -1), -2);
        due(39, "peopleBy a missing one", x.peopleBy(0, 2, 0, 1), -11);
        x.sheet(0, 1, 14);
        due(39, "peopleBy of another sort", x.peopleBy(0, 2, 99, 1), -13);
        due(39, "peopleBy of none", x.peopleBy(0, 1, 0, 0), 0);
        due(39, "peopleBy from 14 on", x.peopleBy(0, 1, 14, 1), -12);
        due(39, "peopleBy from -1 on", x.peopleBy(0, 1, -1, 1), -12);
        due(39, "count(1)", x.count(1), 0);
        int[] row = {0, 0, 4, 41, 1234, 5, 6, 0, 0, 0, 3, 22, 100, 0};
        for (int i = 0; i < 14; i++) {
            x.cell(0, i, row[i]);
        }
        due(39, "peopleBy(0, 1, 2, 3): the second is left out", x.peopleBy(0, 1, 2, 3), 2);
        due(39, "the first of them", x.told(0, 0) + 10 * x.told(0, 1) + 100 * x.told(0, 2), 144);
        due(39, "its BY, WORTH, OTHER", x.told(0, 3) + 100 * x.told(0, 4) + 10000 * x.told(0, 5), 53412);
        due(39, "the last of them", x.told(1, 0) + 10 * x.told(1, 1) + 100 * x.told(1, 2), 223);
        due(39, "peopleBy(0, 1, 10, 2): the second is outside", x.peopleBy(0, 1, 10, 2), -12);
        due(39, "what stood ahead came", x.count(1), 3);
        due(39, "peopleBy from far outside", x.peopleBy(0, 1, 2147483647, 6), -12);
        due(39, "peopleBy from far below", x.peopleBy(0, 1, -2147483647, 6), -12);
        x.sheet(1, 2, 24);
        due(39, "peopleBy of 6: three have no room", x.peopleBy(1, 2, 0, 6), 3);
        due(39, "peopleBy of 7 at 6", x.peopleBy(1, 2, 0, 6), 0);
    }

    private static void taken() {
        OneForOne x = new OneForOne();
        for (int kind = 0; kind < 6; kind++) {
            x.person(kind, 10 * (kind / 3), 0, 0);
        }
        due(40, "taken(0, 6): how many are there", x.taken(0, 6), 3);
        due(40, "taken(1, 6)", x.taken(1, 6), 3);
        due(40, "taken(2, 6)", x.taken(2, 6), 0);
        due(40, "taken(3, 6)", x.taken(3, 6), 0);
        due(40, "taken(0, 0): a LANDING is none of them", x.taken(0, 0), -13);
        // Of each KIND, for which it may be taken.
        int[] is = {1, 3, 5, 9, 25, 37};
        for (int p = 0; p < 6; p++) {
            for (int kind = 0; kind < 6; kind++) {
                due(40, "taken(" + (p + 4) + ", " + kind + ")", x.taken(p + 4, kind), (is[p] >> kind & 1) != 0 ? p : -13);
            }
            due(40, "taken(" + (p + 4) + ", 6): nobody is a LANDING", x.taken(p + 4, 6), -13);
        }
        due(40, "taken(0, 7)", x.taken(0, 7), -2);
        due(40, "taken(0, -1)", x.taken(0, -1), -2);
        due(40, "taken(10, 0)", x.taken(10, 0), -12);
        due(40, "taken(-1, 0)", x.taken(-1, 0), -12);
        due(40, "taken(99, 7): BAD ahead of -12", x.taken(99, 7), -2);
        due(40, "taken(4, 0) of nobody", new OneForOne().taken(4, 0), -11);
        due(40, "taken(9, 6) of nobody: -11 ahead of -13", new OneForOne().taken(9, 6), -11);
    }

    /** No numbers, however far outside, are answered by an exception. */
    private static void anyNumbers() {
        int[] odd = {Integer.MIN_VALUE, -1, 0, 7, Integer.MAX_VALUE};
        for (int people = 0; people < 7; people += 3) {
            for (int a : odd) {
                OneForOne x = someone(people);
                call(x, a, 0, 0);
                for (int b : odd) {
                    call(x, 0, a, b);
                    call(x, a, b, 0);
                }
            }
        }
    }

    private static OneForOne someone(int people) {
        OneForOne x = new OneForOne();
        for (int p = 0; p < people; p++) {
            x.person(p, p < 2 ? 43 : 3, 0, 0);
        }
        x.sheet(0, 2, 5);
        return x;
    }

    private static void call(OneForOne x, int a, int b, int c) {
        x.count(a);
        x.feed(a, b, c, a, b, c);
        x.asks(a, b, c, a);
        x.asks(1, a, b, c);
        x.asks(2, a, b, c);
        x.force(a == 0 ? 1 : a);
        x.foe(a, b, c == 0 ? 2 : c);
        x.told(a, b);
        x.may(a, b);
        x.run(a, b);
        x.where(a, b);
        x.all(a);
        x.soonest(a);
        x.never(a);
        x.best(a, b);
        x.way(a, b);
        x.help(a);
        x.join(a, b);
        x.leave(a);
        x.drawn(a, b, c);
        x.chance(a, b, c, 0);
        x.cell(a, b, c);
        x.copy(a, b, c, a, b);
        x.copy(0, a, 0, b, c);
        x.peopleBy(0, 2, a == 0 ? 9 : a, b == 0 ? 6 : b);
        x.taken(a, b);
        x.first();
        x.laws();
        x.gap();
        x.judge();
    }
}
