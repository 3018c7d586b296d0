import java.util.Arrays;

/**
 * Of each sentence of the promises that names a boundary case: a test of its own. A refused call is made on one of two
 * objects alike, and both must tell the same behind it.
 */
public final class BoundariesOfPromises extends Cases {
    public static void main(String[] args) {
        newObject();
        feeding();
        charters();
        letters();
        faults();
        lines();
        lands();
        stands();
        men();
        bodies();
        readings();
        digs();
        strikes();
        weeks();
        near();
        fits();
        namings();
        whoAndNamed();
        next();
        missing();
        shares();
        likely();
        wall();
        fields();
        kin();
        capacity();
        plans();
        judging();
        looks();
        counts();
        asking();
        String[] parts = new String[32];
        parts[0] = "Face";
        for (int promise = 1; promise <= 31; promise++) {
            parts[promise] = "Promise " + promise;
        }
        end("BoundariesOfPromises", parts);
    }

    private static void newObject() {
        test("Face", "public static final int NONE = -1;");
        due("NONE", StonesAlike.NONE, -1);

        test("Promise 1", "4 by 4 CELLS");
        due("the last", new StonesAlike().body(15), 0);
        due("one beyond", new StonesAlike().body(16), NONE);
        StonesAlike square = new StonesAlike();
        square.stand(0, 4, 0, 0);
        square.man(0, 0, 0, 0, 0);
        due("four in a row", square.near(0, 0), 1);
        due("four in a row", square.near(0, 3), 3);

        test("Promise 1", "nothing else");
        StonesAlike x = new StonesAlike();
        int[] counts = {0, 0, 0, 0, 0, 0, 0, 66, 4, 18, 10};
        for (int what = 0; what < counts.length; what++) {
            due("count(" + what + ")", x.count(what), counts[what]);
        }
        due("wall", x.wall(), 0);
        due("missing(0)", x.missing(0), 0);
        due("likely(0)", x.likely(0), NONE);
        due("plan(0)", x.plan(0), 0);
        due("plan(1)", x.plan(1), NONE);
        due("line(0)", x.line(0), NONE);
        due("fault(0)", x.fault(0), 0);
        due("fault(1)", x.fault(1), NONE);
        due("look(0, 0)", thrown(x, 0, 0), NO_MAN);
        due("100 stones each season", x.field(101), 0);
        due("done in season 1", x.plan(1), 1);

        test("Promise 1", "WEEK 0");
        due("the week", x.count(5), 0);
        due("one later", x.weeks(1), 1);

        test("Promise 1", "an empty TAPE");
        due("not one byte", new StonesAlike().letter(1), -2);
        due("not one byte", new StonesAlike().charter(1), -2);
        due("the first twenty", new StonesAlike().feed(0, 0, 0, 0, 0), 20);
    }

    private static void feedTimes(StonesAlike x, int times) {
        for (int i = 0; i < times; i++) {
            x.feed(0x61612061, 0x61206161, 0x2c206161, 0x2e206161, 0x20616161);
        }
    }

    private static void feeding() {
        test("Promise 2", "Twenty bytes come behind the TAPE");
        StonesAlike x = new StonesAlike();
        feedText(x, "abcdefghijklmnopqrst");
        feedText(x, "u?");
        due("all forty", x.letter(40), NONE);
        due("the new ones stand behind", x.fault(1), 21);

        test("Promise 2", "four of each number, the highest first");
        int[] signs = {0x61, 0x62, 0x63, 0x64};
        for (int place = 0; place < 20; place++) {
            int[] v = new int[5];
            for (int k = 0; k < 20; k++) {
                v[k / 4] |= (k == place ? 255 : signs[k % 4]) << (24 - 8 * (k % 4));
            }
            StonesAlike y = new StonesAlike();
            due("twenty", y.feed(v[0], v[1], v[2], v[3], v[4]), 20);
            due("a letter with byte 255", y.letter(20), NONE);
            due("it is another sign", y.fault(0), 1);
            due("in its place", y.fault(1), place);
        }
        StonesAlike extremes = new StonesAlike();
        due("any numbers", extremes.feed(LEAST, GREATEST, -1, 0, 1), 20);
        due("the byte 128", extremes.letter(1), NONE);
        due("is another sign", extremes.fault(0), 1);

        test("Promise 2", "how many it has");
        StonesAlike many = new StonesAlike();
        for (int i = 1; i <= 20; i++) {
            due("feed " + i, many.feed(0, 0, 0, 0, 0), 20 * i);
        }
        many.letter(7);
        due("empty in between", many.feed(0, 0, 0, 0, 0), 20);

        test("Promise 2", "NONE, and none come, if it would have more than 400");
        StonesAlike full = new StonesAlike();
        feedTimes(full, 19);
        due("up to 400", full.feed(0, 0, 0, 0, 0), 400);
        due("more than 400", full.feed(0, 0, 0, 0, 0), NONE);
        due("none came: there aren't 401", full.letter(401), -2);
        due("none came: there are 400", full.letter(400), NONE);
        refused("a 21st feed", y -> {
            someState(y);
            y.letter(0);
            feedTimes(y, 20);
        }, y -> y.feed(-1, -1, -1, -1, -1), NONE);
        StonesAlike last = new StonesAlike();
        feedTimes(last, 20);
        last.feed(-1, -1, -1, -1, -1);
        due("the last bytes are as they were", last.letter(400), NONE);
        due("no other sign came", last.fault(0), 2);
    }

    private static void charters() {
        test("Promise 3", "The TAPE's first n bytes");
        StonesAlike x = new StonesAlike();
        feedText(x, "wide 12; wide 9;");
        due("eight of them", x.charter(8), 1);
        due("wide 12", x.count(9), 12);
        feedText(x, "wide 92;");
        due("up to a digit: wide 9, and no end", x.charter(6), NONE);
        due("more must come", x.fault(0), 1);
        due("at the length", x.fault(1), 6);
        feedText(x, "wide 12;");
        due("up to a digit: wide 1", x.charter(6), NONE);
        due("a number beyond what is said", x.fault(0), 2);
        due("at it", x.fault(1), 5);
        feedText(x, "bar ab;");
        due("up to a letter: bar a, and no end", x.charter(5), NONE);
        due("more must come", x.fault(0), 1);
        due("at the length", x.fault(1), 5);
        feedText(x, "may boots;");
        due("up to a letter: ma", x.charter(2), NONE);
        due("another word", x.fault(1), 0);
        String full = "bar a;" + "\n".repeat(393) + ";";
        due("all 400", charter(x, full), NONE);
        due("the last of them", x.fault(1), 399);
        due("none of them", x.charter(0), 0);

        test("Promise 3", "(it is empty then)");
        feedText(x, "wide 12; wide 9;");
        x.charter(8);
        due("nothing is left", x.charter(1), -2);
        due("twenty again", x.feed(0, 0, 0, 0, 0), 20);
        due("with a fault", x.charter(1), NONE);
        due("nothing is left", x.letter(1), -2);
        due("with none of them", charter(x, "wide 9;"), 1);
        x.feed(0, 0, 0, 0, 0);
        due("none of twenty", x.charter(0), 0);
        due("nothing is left", x.letter(1), -2);

        test("Promise 3", "how many LINES");
        goodCharter("", 0);
        goodCharter("may boots;", 1);
        goodCharter("may boots;wide 9;bar a b c;recut 3;lines 2;letters 8;sure boots;", 7);
        String most = "may near 1;".repeat(12) + "bar a;bar b;bar c;bar d;bar e;bar f;bar g;bar h;letters 9;lines 2;wide 9;recut 9;";
        goodCharter(most, 24);

        test("Promise 3", "NONE with a FAULT");
        refused("a fault in line 2", y -> {
            someState(y);
            y.letter(0);
            charter(y, " ".repeat(31) + "x");
        }, y -> charter(y, "wide 9;recut 9;may boots;bar z;x"), NONE);
        StonesAlike old = ruled("may boots;wide 9;recut 3;bar war;");
        due("another charter with a fault", charter(old, "sure near 0;sure disc 1;wide 20;lines 2;letters 5;bar god;recut 0;"), NONE);
        int[] counts = {1, 66, 4, 9, 3};
        for (int i = 0; i < counts.length; i++) {
            due("as before: count(" + (6 + i) + ")", old.count(6 + i), counts[i]);
        }
        due("the W of before", letter(old, "war"), NONE);
        due("no other W", letter(old, "god"), 1);

        test("Promise 3", "-2, and the TAPE stays: there are not so many, n is below 0");
        for (int n : new int[] {LEAST, -2, -1, 21, 400, 401, GREATEST}) {
            refused("charter(" + n + ") of twenty", y -> y.charter(n), -2);
        }
        StonesAlike stays = new StonesAlike();
        feedText(stays, "wide 12;");
        due("twenty are there", stays.charter(21), -2);
        due("below 0", stays.charter(-1), -2);
        due("the tape stays", stays.charter(8), 1);
        due("as it was", stays.count(9), 12);
        StonesAlike empty = new StonesAlike();
        due("none are there", empty.charter(1), -2);
        due("below 0", empty.charter(-1), -2);
    }

    private static void letters() {
        test("Promise 4", "They are a LETTER");
        StonesAlike x = new StonesAlike();
        feedText(x, "ab cd?");
        due("the first five", x.letter(5), 1);
        due("five signs", x.line(0), 5);
        due("the tape is empty then", x.letter(1), -2);
        feedText(x, "ab cd?");
        due("all six", x.letter(6), NONE);
        due("the tape is empty then", x.letter(1), -2);
        feedText(x, "ab cd?");
        due("none", x.letter(0), 0);
        due("the tape is empty then", x.letter(1), -2);

        test("Promise 4", "how many LINES it has");
        goodLetter("", "");
        goodLetter("", "a", 1);
        goodLetter("wide 5;lines 6;", "aaaaa bbbbb ccccc ddddd eeeee fffff", 5, 5, 5, 5, 5, 5);

        test("Promise 4", "NONE with a FAULT");
        for (String text : new String[] {"?", "a".repeat(31), " ", "aaaaaaa", "aaaaaa bbbbbb cccccc dddddd", "war"}) {
            refused("the letter '" + text + "'", y -> {
                someState(y);
                y.letter(0);
                letter(y, "abc def");
                letter(y, text);
            }, y -> letter(y, text), NONE);
        }

        test("Promise 4", "-2 likewise");
        for (int n : new int[] {LEAST, -2, -1, 21, 400, 401, GREATEST}) {
            refused("letter(" + n + ") of twenty", y -> y.letter(n), -2);
        }
        StonesAlike stays = new StonesAlike();
        feedText(stays, "ab cd");
        due("twenty are there", stays.letter(21), -2);
        due("below 0", stays.letter(-1), -2);
        due("the tape stays", stays.letter(5), 1);
    }

    private static void faults() {
        test("Promise 5", "Of the latest charter() or letter() that was not -2");
        StonesAlike x = new StonesAlike();
        charter(x, "wide 99;");
        due("a charter's", x.fault(0), 2);
        due("its place", x.fault(1), 5);
        due("-2", x.charter(1), -2);
        due("-2", x.letter(-1), -2);
        due("the one before that", x.fault(0), 2);
        due("its place", x.fault(1), 5);
        letter(x, "abc?");
        due("a letter's", x.fault(0), 1);
        due("its place", x.fault(1), 3);
        charter(x, "wide 9;wide");
        due("a charter's", x.fault(0), 3);
        due("its place", x.fault(1), 7);
        letter(x, "abc");
        due("a good letter's", x.fault(0), 0);
        charter(x, "x");
        due("a charter's", x.fault(0), 1);
        charter(x, "");
        due("a good charter's", x.fault(0), 0);
        due("its place", x.fault(1), NONE);
        letter(x, "? ?");
        due("a letter's", x.fault(0), 1);
        letter(x, "abc");
        due("a good letter's", x.fault(0), 0);
        due("its place", x.fault(1), NONE);
        letter(x, "?");
        due("a letter's", x.fault(0), 1);
        x.land(3, 3);
        due("another land leaves it", x.fault(0), 1);

        test("Promise 5", "what 0: its FAULT (0)");
        letter(x, "a");
        due("without", x.fault(0), 0);
        due("before any text", new StonesAlike().fault(0), 0);

        test("Promise 5", "1: its place (NONE without)");
        due("without", x.fault(1), NONE);
        due("before any text", new StonesAlike().fault(1), NONE);
        letter(x, " ");
        due("at 0", x.fault(1), 0);

        test("Promise 5", "NONE for another what");
        for (int what : new int[] {LEAST, -1, 2, 3, GREATEST}) {
            due("fault(" + what + ") with a fault", x.fault(what), NONE);
            due("fault(" + what + ") without", new StonesAlike().fault(what), NONE);
        }
    }

    private static void lines() {
        test("Promise 6", "Signs of LINE k of the latest letter() without a FAULT (blanks between words with them)");
        StonesAlike x = ruled("wide 6;");
        letter(x, "ab c d efg.");
        due("with two blanks", x.line(0), 6);
        due("the rest", x.line(1), 4);
        letter(x, "a?");
        due("a fault leaves them", x.line(1), 4);
        x.letter(5);
        charter(x, "wide 30;");
        x.land(2, 2);
        due("other calls leave them", x.line(0), 6);
        letter(x, "ab c d efg.");
        due("the latest", x.line(0), 11);

        test("Promise 6", "NONE: there is none such");
        due("before any letter", new StonesAlike().line(0), NONE);
        due("line(1) of one", x.line(1), NONE);
        for (int k : new int[] {LEAST, -1, 6, 7, GREATEST}) {
            due("line(" + k + ")", x.line(k), NONE);
        }
        letter(x, "");
        due("a letter of no lines", x.line(0), NONE);
        StonesAlike six = ruled("wide 5;lines 6;");
        letter(six, "aaaaa bbbbb ccccc ddddd eeeee f");
        due("the sixth", six.line(5), 1);
        due("a seventh", six.line(6), NONE);
    }

    private static void lands() {
        test("Promise 7", "Another land: no STANDS, MEN, NOTES; WEEK 0");
        StonesAlike x = new StonesAlike();
        someState(x);
        due("land(3, 4)", x.land(3, 4), true);
        for (int what : new int[] {0, 1, 2, 3, 5}) {
            due("count(" + what + ")", x.count(what), 0);
        }
        due("no men", thrown(x, 0, 0), NO_MAN);
        due("nobody is missing", x.missing(0), 0);
        due("no notes", x.missing(1), NONE);
        due("nobody is on the wall", x.wall(), 0);
        x.man(0, 0, 15, 0, 0);
        due("no stands", x.near(0, 0), NONE);
        due("nothing dug, no body: the first cell of twelve", x.share(0, 0, 1), 12);
        due("the last of twelve", x.dig(11), 0);
        due("none beyond", x.dig(12), NONE);
        due("numbered from 0 on: a stand", x.stand(0, 0, 0, 0), 0);
        due("numbered from 0 on: a body", x.body(0), 0);
        due("numbered from 0 on: a note", x.dig(0), 2);
        due("week 1", x.weeks(1), 1);
        StonesAlike full = new StonesAlike();
        for (int i = 0; i < 90; i++) {
            full.stand(0, 0, 0, 0);
            full.man(0, 0, 0, 0, 0);
            full.body(0);
            full.dig(0);
        }
        full.weeks(999);
        due("behind a full one", full.land(4, 4), true);
        due("a stand", full.stand(0, 0, 0, 0), 0);
        due("a man", full.man(0, 0, 0, 0, 0), 0);
        due("a body", full.body(0), 0);
        due("a note", full.dig(0), 1);

        test("Promise 7", "(FIELDS and CHARTER stay): true");
        StonesAlike y = new StonesAlike();
        someState(y);
        y.land(2, 2);
        int[] counts = {2, 0, 3, 30, 3, 6, 4};
        for (int i = 0; i < counts.length; i++) {
            due("count(" + (4 + i) + ")", y.count(4 + i), counts[i]);
        }
        due("the kin", y.plan(0), 12);
        due("the capacity", y.plan(1), 2);
        due("the W", letter(ruledLand("bar war;"), "war"), NONE);
        y.man(0, 1234, 0, 0, 0);
        y.man(0, 1235, 0, 0, 0);
        y.body(0);
        y.read(0, 0, 3, 4);
        due("the proofs", y.fits(2, 0, 0), 2);

        test("Promise 7", "false: no such W, H");
        for (int bad : new int[] {LEAST, -1, 0, 1, 6, 7, GREATEST}) {
            refused("land(" + bad + ", 3)", z -> z.land(bad, 3) ? 1 : 0, 0);
            refused("land(3, " + bad + ")", z -> z.land(3, bad) ? 1 : 0, 0);
            refused("land(" + bad + ", " + bad + ")", z -> z.land(bad, bad) ? 1 : 0, 0);
        }
    }

    private static StonesAlike ruledLand(String text) {
        StonesAlike x = ruled(text);
        x.land(3, 3);
        return x;
    }

    private static void stands() {
        test("Promise 8", "A STAND: its number");
        StonesAlike x = new StonesAlike();
        int[][] good = {{0, 0, 0, 0}, {5, 15, 999, 999}, {0, 15, 0, 999}, {5, 0, 998, 999}};
        for (int i = 0; i < good.length; i++) {
            due("a stand", x.stand(good[i][0], good[i][1], good[i][2], good[i][3]), i);
        }

        test("Promise 8", "NONE: it can't be");
        int[][] bad = {{-1, 0, 5, 6}, {6, 0, 5, 6}, {LEAST, 0, 5, 6}, {0, -1, 5, 6}, {0, 15, 5, 6}, {0, GREATEST, 5, 6},
                {0, 0, -1, 6}, {0, 0, 5, 1000}, {0, 0, 1000, 1001}, {0, 0, 6, 5}, {0, 0, -2, -1}, {0, 0, LEAST, GREATEST}};
        for (int[] b : bad) {
            refused("stand(" + b[0] + ", " + b[1] + ", " + b[2] + ", " + b[3] + ")", y -> y.stand(b[0], b[1], b[2], b[3]), NONE);
        }

        test("Promise 8", "or there are 20");
        refused("a 21st stand", y -> {
            someState(y);
            for (int i = 2; i < 20; i++) {
                y.stand(5, 0, 0, 0);
            }
        }, y -> y.stand(5, 3, 999, 999), NONE);
        StonesAlike z = new StonesAlike();
        for (int i = 0; i < 19; i++) {
            z.stand(0, 0, 0, 0);
        }
        due("the 20th", z.stand(0, 15, 5, 5), 19);
        z.man(0, 0, 5, 0, 0);
        due("it is one", z.near(0, 15), 0);
        due("a 21st", z.stand(0, 0, 5, 5), NONE);
        due("it is none", z.near(0, 0), 3);
    }

    private static void men() {
        test("Promise 9", "A MAN: his number");
        StonesAlike x = new StonesAlike();
        due("the least of all", x.man(0, 0, 0, 0, 0), 0);
        due("the greatest of all", x.man(5, 9999, 999, 9, 255), 1);
        due("one just alike", x.man(5, 9999, 999, 9, 255), 2);

        test("Promise 9", "NONE: he can't be");
        int[] good = {1, 1, 1, 1, 1};
        int[] over = {6, 10000, 1000, 10, 256};
        for (int i = 0; i < 5; i++) {
            for (int v : new int[] {LEAST, -1, over[i], GREATEST}) {
                int[] b = good.clone();
                b[i] = v;
                refused("man" + Arrays.toString(b), y -> y.man(b[0], b[1], b[2], b[3], b[4]), NONE);
            }
        }

        test("Promise 9", "or there are 14");
        refused("a 15th man", y -> {
            someState(y);
            for (int i = 4; i < 14; i++) {
                y.man(3, i, i, 0, 0);
            }
        }, y -> y.man(5, 9999, 999, 9, 255), NONE);
    }

    private static void bodies() {
        test("Promise 10", "A BODY: its number among BODIES");
        StonesAlike x = new StonesAlike();
        x.dig(0);
        due("the first, as the second note", x.body(0), 0);
        x.dig(0);
        due("the second", x.body(15), 1);
        due("both are notes", x.count(3), 4);

        test("Promise 10", "NONE: no such CELL");
        for (int cell : new int[] {LEAST, -1, 15, 16, GREATEST}) {
            refused("body(" + cell + ")", y -> y.body(cell), NONE);
        }

        test("Promise 10", "there are 10");
        refused("an 11th body", y -> {
            someState(y);
            for (int i = 2; i < 10; i++) {
                y.body(i);
            }
        }, y -> y.body(0), NONE);

        test("Promise 10", "or 90 NOTES");
        refused("a body as a 91st note", BoundariesOfPromises::ninetyNotes, y -> y.body(0), NONE);
        StonesAlike z = new StonesAlike();
        for (int i = 0; i < 89; i++) {
            z.dig(0);
        }
        due("a body as the 90th", z.body(0), 0);
        due("one more", z.body(0), NONE);
        due("one body", z.count(2), 1);
    }

    /** Ninety notes; there are two bodies. */
    private static void ninetyNotes(StonesAlike x) {
        someState(x);
        for (int note = x.count(3); note < 90; note++) {
            x.dig(3);
        }
    }

    private static void readings() {
        test("Promise 11", "(kind 0: place and digit, 1: place isn't looked at, the UNIT, 2: likewise BOOTS, 3: bit and 0 or 1)");
        StonesAlike x = ruled("may disc 1;may button;may boots;may teeth 1;");
        x.man(4, 1239, 0, 8, 64);
        int[][] good = {{0, 3, 9}, {1, LEAST, 4}, {1, -1, 4}, {1, 4, 4}, {1, 99, 4}, {2, GREATEST, 8}, {2, -1, 8}, {2, 8, 8}, {3, 6, 1}, {3, 7, 0}};
        for (int i = 0; i < good.length; i++) {
            x.body(0);
            due("read " + Arrays.toString(good[i]), x.read(i, good[i][0], good[i][1], good[i][2]), 2 * i + 1);
            due("it is read", x.fits(2 * i + 2, i, 0), 2);
        }

        test("Promise 11", "its NOTE's number");
        due("behind twenty notes", x.read(0, 1, 0, 0), 20);
        due("the same once more", x.read(0, 1, 0, 0), 21);

        test("Promise 11", "NONE: no such ones");
        int[][] bad = {{-1, 1, 0, 0}, {2, 1, 0, 0}, {9, 1, 0, 0}, {10, 1, 0, 0}, {LEAST, 1, 0, 0}, {GREATEST, 1, 0, 0},
                {0, -1, 0, 0}, {0, 4, 0, 0}, {0, LEAST, 0, 0}, {0, GREATEST, 0, 0},
                {0, 0, -1, 0}, {0, 0, 4, 0}, {0, 0, 0, -1}, {0, 0, 0, 10}, {0, 1, 0, -1}, {0, 1, 0, 6},
                {0, 2, 0, -1}, {0, 2, 0, 10}, {0, 3, -1, 0}, {0, 3, 8, 0}, {0, 3, 0, -1}, {0, 3, 0, 2}, {0, 3, 32, 1}};
        for (int[] b : bad) {
            refused("read" + Arrays.toString(b), y -> y.read(b[0], b[1], b[2], b[3]), NONE);
        }
        refused("a reading where there is no body", y -> y.land(4, 4), y -> y.read(0, 1, 0, 0), NONE);

        test("Promise 11", "or there are 90");
        refused("a reading as a 91st note", BoundariesOfPromises::ninetyNotes, y -> y.read(0, 1, 0, 0), NONE);
        StonesAlike z = new StonesAlike();
        for (int i = 0; i < 89; i++) {
            z.dig(0);
        }
        due("no body", z.read(0, 1, 0, 0), NONE);
        z.land(4, 4);
        z.body(0);
        for (int i = 1; i < 90; i++) {
            due("a reading as note " + i, z.read(0, 1, 0, 0), i);
        }
        due("one more", z.read(0, 1, 0, 0), NONE);
    }

    private static void digs() {
        test("Promise 12", "A CELL is DUG: its NOTE's number");
        StonesAlike x = new StonesAlike();
        x.body(0);
        due("the second note", x.dig(0), 1);
        due("the last cell", x.dig(15), 2);
        due("dug again", x.dig(15), 3);
        x.man(0, 0, 0, 0, 0);
        due("a fourteenth of what is left", x.share(4, 1, 1), 14);
        due("the note of that number isn't struck", x.who(4, 0), 0);

        test("Promise 12", "NONE: no such one");
        for (int cell : new int[] {LEAST, -1, 15, 16, GREATEST}) {
            refused("dig(" + cell + ")", y -> y.dig(cell), NONE);
        }

        test("Promise 12", "or there are 90");
        refused("a cell dug as a 91st note", BoundariesOfPromises::ninetyNotes, y -> y.dig(0), NONE);
    }

    private static void strikes() {
        test("Promise 13", "A NOTE is STRUCK: this NOTE's number");
        StonesAlike x = new StonesAlike();
        x.man(0, 0, 0, 0, 0);
        x.dig(0);
        due("the first note", x.strike(0), 1);
        due("not dug", x.share(2, 0, 1), 16);
        due("a strike", x.strike(1), 2);
        due("dug", x.share(3, 0, 0), 0);
        due("a note struck once more", x.strike(0), 3);
        due("not dug", x.share(4, 0, 1), 16);

        test("Promise 13", "NONE: no such one");
        due("without notes", new StonesAlike().strike(0), NONE);
        for (int note : new int[] {LEAST, -1, 8, 9, 89, 90, GREATEST}) {
            refused("strike(" + note + ") of eight notes", y -> y.strike(note), NONE);
        }
        StonesAlike last = new StonesAlike();
        someState(last);
        due("eight notes", last.count(3), 8);
        due("the last of them", last.strike(7), 8);

        test("Promise 13", "or there are 90");
        refused("a strike as a 91st note", BoundariesOfPromises::ninetyNotes, y -> y.strike(0), NONE);
    }

    private static void weeks() {
        test("Promise 14", "So many WEEKS go by (0 .. 999): the WEEK");
        StonesAlike x = new StonesAlike();
        due("weeks(0)", x.weeks(0), 0);
        due("weeks(999)", x.weeks(999), 999);
        due("weeks(0)", x.weeks(0), 999);
        due("weeks(1)", x.weeks(1), 1000);

        test("Promise 14", "NONE, and nothing happens: no such number");
        for (int n : new int[] {LEAST, -1000, -1, 1000, 1001, GREATEST}) {
            refused("weeks(" + n + ")", BoundariesOfPromises::foundSinceTheWall, y -> y.weeks(n), NONE);
        }

        test("Promise 14", "beyond 9999");
        for (int n : new int[] {5, 6, 999}) {
            refused("weeks(" + n + ") in week 9995", BoundariesOfPromises::lateInTheWeeks, y -> y.weeks(n), NONE);
        }
        StonesAlike z = new StonesAlike();
        for (int i = 1; i <= 10; i++) {
            due("weeks(999)", z.weeks(999), 999 * i);
        }
        due("weeks(10) in week 9990", z.weeks(10), NONE);
        due("weeks(999) in week 9990", z.weeks(999), NONE);
        due("still week 9990", z.count(5), 9990);
        due("weeks(9)", z.weeks(9), 9999);
        due("weeks(1)", z.weeks(1), NONE);
        due("weeks(0)", z.weeks(0), 9999);
    }

    /** Were the wall cut now, other names would stand there than do. */
    private static void foundSinceTheWall(StonesAlike x) {
        someState(x);
        wallIsOld(x);
    }

    private static void lateInTheWeeks(StonesAlike x) {
        someState(x);
        for (int i = 0; i < 10; i++) {
            x.weeks(999);
        }
        x.strike(7);
        x.strike(1);
        wallIsOld(x);
    }

    private static void wallIsOld(StonesAlike x) {
        due("who is missing now is other than who stands on the wall", x.missing(x.count(3)) != x.wall(), true);
    }

    private static void near() {
        test("Promise 15", "NEAR; NONE: nowhere, no such ones");
        StonesAlike x = new StonesAlike();
        x.stand(0, 0, 5, 6);
        x.man(0, 0, 5, 0, 0);
        x.man(0, 0, 7, 0, 0);
        due("in the cell itself", x.near(0, 0), 0);
        due("the farthest", x.near(0, 15), 3);
        due("nowhere", x.near(1, 0), NONE);
        for (int man : new int[] {LEAST, -1, 2, 13, 14, GREATEST}) {
            due("near(" + man + ", 0)", x.near(man, 0), NONE);
        }
        for (int cell : new int[] {LEAST, -1, 16, 25, GREATEST}) {
            due("near(0, " + cell + ")", x.near(0, cell), NONE);
        }
        x.land(5, 5);
        due("no man in another land", x.near(0, 0), NONE);
        x.stand(0, 0, 0, 0);
        x.man(0, 0, 0, 0, 0);
        due("the farthest of all", x.near(0, 24), 4);
        due("beyond it", x.near(0, 25), NONE);
    }

    private static void fits() {
        test("Promise 16", "0: a BODY and a MAN QUARREL, 1: neither that nor a LINE holds, 2: it MAY BE he, 3: it SURELY is");
        StonesAlike x = ruled("may boots;sure boots button;");
        x.man(0, 0, 0, 1, 0);
        x.man(1, 0, 0, 1, 0);
        x.body(0);
        due("no line holds", x.fits(1, 0, 0), 1);
        x.read(0, 2, 0, 1);
        due("a line of may", x.fits(2, 0, 0), 2);
        x.read(0, 1, 0, 0);
        due("a line of sure", x.fits(3, 0, 0), 3);
        due("the button is unlike", x.fits(3, 0, 1), 0);
        due("they quarrel without a line, too", quarrelWithoutLine(), 0);

        test("Promise 16", "NONE: no such ones");
        for (int wild : new int[] {LEAST, -1, 4, 90, 91, GREATEST}) {
            due("fits(" + wild + ", 0, 0)", x.fits(wild, 0, 0), NONE);
        }
        for (int wild : new int[] {LEAST, -1, 1, 9, 10, GREATEST}) {
            due("fits(3, " + wild + ", 0)", x.fits(3, wild, 0), NONE);
        }
        for (int wild : new int[] {LEAST, -1, 2, 13, 14, GREATEST}) {
            due("fits(3, 0, " + wild + ")", x.fits(3, 0, wild), NONE);
        }

        test("Promise 16", "or the BODY isn't KNOWN");
        due("before its note", x.fits(0, 0, 0), NONE);
        x.strike(0);
        due("struck", x.fits(4, 0, 0), NONE);
        x.strike(3);
        due("no more struck", x.fits(5, 0, 0), 3);
    }

    private static int quarrelWithoutLine() {
        StonesAlike x = new StonesAlike();
        x.man(0, 0, 0, 1, 0);
        x.body(0);
        x.read(0, 2, 0, 2);
        return x.fits(2, 0, 0);
    }

    private static void namings() {
        test("Promise 17", "what 0: how many BODIES have a MAN in each, 1: how many NAMINGS there are");
        StonesAlike x = ruled("may near 7;");
        due("of nothing: none", x.namings(0, 0), 0);
        due("of nothing: one way", x.namings(0, 1), 1);
        x.stand(0, 0, 0, 0);
        for (int i = 0; i < 14; i++) {
            x.man(0, 0, 0, 0, 0);
        }
        long ways = 1;
        for (int i = 0; i < 10; i++) {
            x.body(0);
            ways *= 14 - i;
            due("bodies", x.namings(i + 1, 0), i + 1);
            due("ways, more than an int holds in the end", x.namings(i + 1, 1), ways);
        }
        due("14! by 4!", ways, 3632428800L);

        test("Promise 17", "NONE: no such n, what");
        for (int wild : new int[] {LEAST, -1, 11, 90, 91, GREATEST}) {
            due("namings(" + wild + ", 0)", x.namings(wild, 0), NONE);
            due("namings(" + wild + ", 1)", x.namings(wild, 1), NONE);
        }
        for (int wild : new int[] {LEAST, -1, 2, 3, GREATEST}) {
            due("namings(10, " + wild + ")", x.namings(10, wild), NONE);
        }
    }

    private static void whoAndNamed() {
        test("Promise 18", "WHO (bits); 0: none");
        StonesAlike x = ruled("may boots;");
        x.man(0, 0, 0, 1, 0);
        x.man(0, 0, 0, 1, 0);
        x.body(0);
        x.read(0, 2, 0, 1);
        due("none", x.who(1, 0), 0);
        due("two", x.who(2, 0), 3);

        test("Promise 18", "NONE: no such n, BODY, or it isn't KNOWN");
        x.body(0);
        x.strike(2);
        for (int wild : new int[] {LEAST, -1, 5, 90, 91, GREATEST}) {
            due("who(" + wild + ", 0)", x.who(wild, 0), NONE);
        }
        for (int wild : new int[] {LEAST, -1, 2, 9, 10, GREATEST}) {
            due("who(4, " + wild + ")", x.who(4, wild), NONE);
        }
        due("by no note", x.who(0, 0), NONE);
        due("before its note", x.who(2, 1), NONE);
        due("with its note", x.who(3, 1), 0);
        due("struck", x.who(4, 1), NONE);

        test("Promise 19", "The MAN as whom a BODY is NAMED; NONE: it isn't, no such ones");
        StonesAlike y = ruled("may boots;");
        y.man(0, 0, 0, 1, 0);
        y.man(0, 0, 0, 2, 0);
        y.body(0);
        y.read(0, 2, 0, 2);
        due("nobody", y.named(1, 0), NONE);
        due("the second", y.named(2, 0), 1);
        y.read(0, 2, 0, 1);
        due("the first", y.named(3, 0), 0);
        y.man(0, 0, 0, 1, 0);
        due("one of two", y.named(3, 0), NONE);
        for (int wild : new int[] {LEAST, -1, 4, 90, 91, GREATEST}) {
            due("named(" + wild + ", 0)", y.named(wild, 0), NONE);
        }
        for (int wild : new int[] {LEAST, -1, 1, 9, 10, GREATEST}) {
            due("named(2, " + wild + ")", y.named(2, wild), NONE);
        }
        due("by no note", y.named(0, 0), NONE);
        y.strike(0);
        due("struck", y.named(4, 0), NONE);
    }

    private static void next() {
        test("Promise 20", "NONE: it is NAMED");
        StonesAlike x = ruled("may boots;");
        x.man(0, 0, 0, 1, 0);
        x.man(0, 1, 0, 1, 0);
        x.man(0, 0, 0, 2, 0);
        x.body(0);
        x.read(0, 2, 0, 2);
        due("named", x.named(2, 0), 2);
        due("nothing next", x.next(2, 0), NONE);
        x.read(0, 2, 0, 1);
        due("one of two: the last digit", x.next(3, 0), 3);

        test("Promise 20", "all is read");
        StonesAlike y = ruled("may boots;");
        y.man(0, 0, 0, 0, 0);
        y.man(0, 0, 0, 0, 0);
        y.body(0);
        y.read(0, 2, 0, 0);
        y.read(0, 1, 0, 0);
        for (int place = 0; place < 4; place++) {
            y.read(0, 0, place, 0);
        }
        for (int bit = 0; bit < 8; bit++) {
            y.read(0, 3, bit, 0);
        }
        due("all but one", y.next(14, 0), 13);
        due("two men still", y.who(15, 0), 3);
        due("all", y.next(15, 0), NONE);

        test("Promise 20", "WHO has nobody");
        due("no line holds", x.next(1, 0), NONE);
        x.read(0, 2, 0, 3);
        due("it quarrels with all", x.next(4, 0), NONE);
        due("nobody is on the lists", withoutMen().next(1, 0), NONE);

        test("Promise 20", "no such ones");
        for (int wild : new int[] {LEAST, -1, 5, 90, 91, GREATEST}) {
            due("next(" + wild + ", 0)", x.next(wild, 0), NONE);
        }
        for (int wild : new int[] {LEAST, -1, 1, 9, 10, GREATEST}) {
            due("next(3, " + wild + ")", x.next(3, wild), NONE);
        }
        due("by no note", x.next(0, 0), NONE);
        x.strike(3);
        x.strike(0);
        due("struck", x.next(6, 0), NONE);
    }

    private static StonesAlike withoutMen() {
        StonesAlike x = ruled("may near 7;");
        x.body(0);
        return x;
    }

    private static void missing() {
        test("Promise 21", "MISSING as KNOWN by n (bits); NONE: no such n");
        StonesAlike x = ruled("may disc 1;");
        due("nobody on the lists", x.missing(0), 0);
        for (int i = 0; i < 14; i++) {
            x.man(0, i, 0, 0, 0);
        }
        due("all fourteen", x.missing(0), (1 << 14) - 1);
        x.body(0);
        x.read(0, 0, 3, 9);
        due("by one note", x.missing(1), (1 << 14) - 1);
        due("the tenth is found", x.missing(2), (1 << 14) - 1 - (1 << 9));
        for (int wild : new int[] {LEAST, -1, 3, 90, 91, GREATEST}) {
            due("missing(" + wild + ")", x.missing(wild), NONE);
        }
        StonesAlike full = new StonesAlike();
        for (int i = 0; i < 90; i++) {
            full.dig(0);
        }
        due("by ninety", full.missing(90), 0);
        due("by 91", full.missing(91), NONE);
    }

    private static void shares() {
        test("Promise 22", "what 0: the upper, 1: the lower number (0 by 1 for none)");
        StonesAlike x = new StonesAlike();
        due("nobody is missing: the upper", x.share(0, 0, 0), 0);
        due("nobody is missing: the lower", x.share(0, 0, 1), 1);
        x.man(0, 0, 0, 0, 0);
        due("a sixteenth: the upper", x.share(0, 15, 0), 1);
        due("a sixteenth: the lower", x.share(0, 15, 1), 16);
        x.dig(15);
        due("dug: the upper", x.share(1, 15, 0), 0);
        due("dug: the lower", x.share(1, 15, 1), 1);

        test("Promise 22", "NONE: no such ones");
        for (int wild : new int[] {LEAST, -1, 2, 90, 91, GREATEST}) {
            due("share(" + wild + ", 0, 0)", x.share(wild, 0, 0), NONE);
            due("share(0, 0, " + wild + ")", x.share(0, 0, wild), NONE);
        }
        for (int wild : new int[] {LEAST, -1, 16, 25, GREATEST}) {
            due("share(0, " + wild + ", 0)", x.share(0, wild, 0), NONE);
            due("share(0, " + wild + ", 1)", x.share(0, wild, 1), NONE);
        }
    }

    private static void likely() {
        test("Promise 23", "The CELL with the greatest SHARE, of several the least");
        StonesAlike x = new StonesAlike();
        x.man(0, 0, 0, 0, 0);
        due("all alike: the first", x.likely(0), 0);
        x.dig(0);
        due("the first that isn't dug", x.likely(1), 1);
        x.stand(1, 15, 0, 0);
        x.man(1, 0, 0, 0, 0);
        due("the greatest is the last", x.likely(1), 15);
        x.dig(15);
        due("three about it: the first of them", x.likely(2), 10);

        test("Promise 23", "NONE: all have none, no such n");
        due("nobody is missing", new StonesAlike().likely(0), NONE);
        StonesAlike y = new StonesAlike();
        y.land(2, 2);
        y.man(0, 0, 0, 0, 0);
        for (int cell = 0; cell < 3; cell++) {
            y.dig(cell);
        }
        due("one cell is left", y.likely(3), 3);
        y.body(3);
        due("none is left", y.likely(4), NONE);
        for (int wild : new int[] {LEAST, -1, 5, 90, 91, GREATEST}) {
            due("likely(" + wild + ")", y.likely(wild), NONE);
        }
    }

    private static void wall() {
        test("Promise 24", "THE WALL now (bits of MEN)");
        StonesAlike x = ruled("recut 1;");
        due("at first", x.wall(), 0);
        x.weeks(1);
        due("cut, with nobody on the lists", x.wall(), 0);
        for (int i = 0; i < 14; i++) {
            x.man(0, 0, 0, 0, 0);
        }
        due("not cut since", x.wall(), 0);
        x.weeks(1);
        due("all fourteen", x.wall(), (1 << 14) - 1);
        due("asked again", x.wall(), (1 << 14) - 1);
    }

    private static void fields() {
        test("Promise 25", "A FIELD, its KIN none at first: its number");
        StonesAlike x = new StonesAlike();
        for (int i = 0; i < 8; i++) {
            due("field " + i, x.field(1), i);
            due("no kin", x.plan(0), 0);
        }

        test("Promise 25", "NONE: no such number of STONES");
        for (int stones : new int[] {LEAST, -999, -1, 0, 1000, GREATEST}) {
            refused("field(" + stones + ")", y -> y.field(stones), NONE);
        }

        test("Promise 25", "or there are 8");
        refused("a ninth field", y -> {
            someState(y);
            for (int i = 2; i < 8; i++) {
                y.field(10 * i);
            }
        }, y -> y.field(999), NONE);
    }

    private static void kin() {
        test("Promise 26", "KIN of a FIELD who live up to a SEASON: true");
        StonesAlike x = new StonesAlike();
        x.field(1);
        x.field(1);
        int[][] good = {{0, 0, 99, 99}, {0, 20, 99, 198}, {1, 20, 0, 198}, {1, 0, 1, 199}, {0, 0, 0, 100}, {0, 20, 1, 2}};
        for (int[] g : good) {
            due("kin(" + g[0] + ", " + g[1] + ", " + g[2] + ")", x.kin(g[0], g[1], g[2]), true);
            due("the sum", x.plan(0), g[3]);
        }

        test("Promise 26", "false: no such ones");
        int[][] bad = {{LEAST, 0, 1}, {-1, 0, 1}, {2, 0, 1}, {7, 0, 1}, {8, 0, 1}, {GREATEST, 0, 1},
                {0, LEAST, 1}, {0, -1, 1}, {0, 21, 1}, {0, GREATEST, 1}, {0, 2, LEAST}, {0, 2, -1}, {0, 2, 100}, {0, 2, GREATEST}};
        for (int[] b : bad) {
            refused("kin(" + b[0] + ", " + b[1] + ", " + b[2] + ")", y -> y.kin(b[0], b[1], b[2]) ? 1 : 0, 0);
        }
        due("without fields", new StonesAlike().kin(0, 0, 0), false);
    }

    private static void capacity() {
        test("Promise 27", "CAPACITY: true");
        for (int n : new int[] {1, 2, 998, 999}) {
            StonesAlike x = new StonesAlike();
            x.field(999);
            due("capacity(" + n + ")", x.capacity(n), true);
            due("the last stone", x.plan(1), 998 / n);
        }

        test("Promise 27", "false: no such one");
        for (int n : new int[] {LEAST, -1, 0, 1000, GREATEST}) {
            refused("capacity(" + n + ")", y -> y.capacity(n) ? 1 : 0, 0);
        }
    }

    private static void plans() {
        test("Promise 28", "what 0: the sum");
        StonesAlike x = new StonesAlike();
        due("without fields", x.plan(0), 0);
        x.capacity(1);
        for (int i = 0; i < 8; i++) {
            x.field(1);
            for (int season = 0; season <= 20; season++) {
                x.kin(i, season, 99);
            }
        }
        int most = 0;
        for (int season = 0; season < 8; season++) {
            most += (21 - season) * 99;
        }
        due("the greatest", x.plan(0), most);

        test("Promise 28", "1: the SEASON in which the last FIELD is DONE (NONE without FIELDS)");
        due("without", new StonesAlike().plan(1), NONE);
        due("the eighth", x.plan(1), 7);
        StonesAlike late = new StonesAlike();
        late.capacity(1);
        for (int i = 0; i < 8; i++) {
            late.field(999);
            due("far beyond season 20", late.plan(1), 999 * (i + 1) - 1);
        }
        due("nobody lives so long", late.plan(0), 0);

        test("Promise 28", "2 .. 9: the FIELD of place what less 2 (NONE)");
        StonesAlike y = new StonesAlike();
        for (int fields = 0; fields <= 8; fields++) {
            for (int what = 2; what <= 9; what++) {
                due(fields + " fields: plan(" + what + ")", y.plan(what), what - 2 < fields ? what - 2 : NONE);
            }
            y.field(5);
        }

        test("Promise 28", "-2: no such what");
        for (int what : new int[] {LEAST, -2, -1, 10, 11, GREATEST}) {
            due("plan(" + what + ") of eight", y.plan(what), -2);
            due("plan(" + what + ") of none", new StonesAlike().plan(what), -2);
        }
    }

    private static void judging() {
        test("Promise 29", "FIELDS by three bits each, the first one lowest (each once)");
        StonesAlike x = new StonesAlike();
        x.capacity(1);
        int order = 0;
        for (int i = 0; i < 8; i++) {
            due("all of " + i, x.judge(order), i);
            x.field(1);
            x.kin(i, i, 1);
            order |= i << (3 * i);
        }
        due("all of eight", x.judge(order), 8);
        int back = 0;
        for (int i = 0; i < 8; i++) {
            back |= (7 - i) << (3 * i);
        }
        due("the last first: the upper half is in time", x.judge(back), 4);

        test("Promise 29", "NONE: it is no order of all");
        due("one twice", x.judge(order & ~7 | 1), NONE);
        due("the last twice", x.judge(order & ~(7 << 21) | 6 << 21), NONE);
        due("nothing but the first", x.judge(0), NONE);
        due("nothing but the last", x.judge(-1), NONE);
        StonesAlike y = new StonesAlike();
        y.field(1);
        due("one field", y.judge(0), 0);
        for (int none = 1; none < 8; none++) {
            due("one field, told as " + none, y.judge(none), NONE);
        }
        y.field(1);
        y.field(1);
        due("three, one beyond them", y.judge(0 | 1 << 3 | 3 << 6), NONE);
        due("three, one far beyond them", y.judge(0 | 1 << 3 | 7 << 6), NONE);
        due("three, one missing", y.judge(0 | 1 << 3), NONE);
        due("three", y.judge(2 | 1 << 3), 0);

        test("Promise 29", "(Bits beyond aren't looked at.)");
        for (int bit = 24; bit < 32; bit++) {
            due("eight, and bit " + bit, x.judge(order | 1 << bit), 8);
        }
        for (int bit = 9; bit < 32; bit++) {
            due("three, and bit " + bit, y.judge(2 | 1 << 3 | 1 << bit), 0);
        }
        due("eight, and all bits beyond", x.judge(order | 255 << 24), 8);
        due("none, and all bits", new StonesAlike().judge(-1), 0);
        due("none, and the least number", new StonesAlike().judge(LEAST), 0);
    }

    private static void looks() {
        test("Promise 30", "Of a MAN, what 0: UNIT, 1: NUMBER, 2: DAY, 3: BOOTS, 4: TEETH");
        StonesAlike x = new StonesAlike();
        int[][] men = {{0, 0, 0, 0, 0}, {5, 9999, 999, 9, 255}, {1, 2, 3, 4, 5}};
        for (int[] m : men) {
            x.man(m[0], m[1], m[2], m[3], m[4]);
        }
        for (int man = 0; man < 3; man++) {
            for (int what = 0; what < 5; what++) {
                due("look(" + man + ", " + what + ")", x.look(man, what), men[man][what]);
            }
        }

        test("Promise 30", "IndexOutOfBoundsException: no such MAN");
        for (int wild : new int[] {LEAST, -1, 3, 13, 14, GREATEST}) {
            for (int what = 0; what < 5; what++) {
                due("look(" + wild + ", " + what + ")", thrown(x, wild, what), NO_MAN);
            }
            refused("look(" + wild + ", 0)", y -> thrown(y, wild == 3 ? 4 : wild, 0), NO_MAN);
        }
        due("without men", thrown(new StonesAlike(), 0, 0), NO_MAN);
        due("neither such a man nor such a what", thrown(x, 3, 5), NO_MAN);

        test("Promise 30", "NoSuchElementException: no such what");
        for (int wild : new int[] {LEAST, -1, 5, 6, GREATEST}) {
            for (int man = 0; man < 3; man++) {
                due("look(" + man + ", " + wild + ")", thrown(x, man, wild), NO_WHAT);
            }
            refused("look(0, " + wild + ")", y -> thrown(y, 0, wild), NO_WHAT);
        }
    }

    private static void counts() {
        test("Promise 31", "0 MEN, 1 STANDS, 2 BODIES, 3 NOTES, 4 FIELDS, 5 the WEEK, 6 LINES of may and sure, 7 letters, 8 lines, 9 wide, 10 recut");
        StonesAlike x = ruled("may boots;bar a;sure boots;letters 7;lines 5;wide 9;recut 99;may button;");
        StonesAlike full = ruled("may boots;".repeat(12) + "letters 66;lines 6;wide 30;recut 1;");
        x.stand(0, 0, 0, 0);
        x.man(0, 0, 0, 0, 0);
        x.man(0, 0, 0, 0, 0);
        x.body(0);
        x.body(0);
        x.body(0);
        x.strike(1);
        x.field(1);
        x.field(1);
        x.weeks(6);
        for (int i = 0; i < 90; i++) {
            full.stand(0, 0, 0, 0);
            full.man(0, 0, 0, 0, 0);
            full.body(0);
            full.strike(0);
            full.field(1);
        }
        for (int i = 0; i < 11; i++) {
            full.weeks(i == 10 ? 9 : 999);
        }
        int[] some = {2, 1, 3, 4, 2, 6, 3, 7, 5, 9, 99};
        int[] most = {14, 20, 10, 90, 8, 9999, 12, 66, 6, 30, 1};
        for (int what = 0; what <= 10; what++) {
            due("count(" + what + ")", x.count(what), some[what]);
            due("count(" + what + ") where all is full", full.count(what), most[what]);
        }

        test("Promise 31", "NONE for another what");
        for (int what : new int[] {LEAST, -1, 11, 12, GREATEST}) {
            due("count(" + what + ")", x.count(what), NONE);
        }
    }

    /** A question, whatever it asks, leaves all as it was: each on one of two objects alike. */
    private static void asking() {
        test("Face", "public int fault(int what);");
        for (int v : new int[] {LEAST, -1, 0, 1, 2, 5, 8, 9, 90, GREATEST}) {
            refused("fault(" + v + "), line, count, plan, judge, missing, likely, wall", y -> ask(y, v), 0);
            for (int w : new int[] {-1, 0, 1, 8, GREATEST}) {
                refused("near, namings, who, named, next of " + v + ", " + w, y -> askPair(y, v, w), 0);
            }
        }
        for (int n : new int[] {-1, 0, 3, 8, 9}) {
            for (int v : new int[] {-1, 0, 1, 14}) {
                refused("fits and share of " + n + ", " + v, y -> askThree(y, n, v), 0);
            }
        }
    }

    private static int ask(StonesAlike x, int v) {
        x.fault(v);
        x.line(v);
        x.count(v);
        x.plan(v);
        x.judge(v);
        x.missing(v);
        x.likely(v);
        x.wall();
        return 0;
    }

    private static int askPair(StonesAlike x, int v, int w) {
        x.near(v, w);
        x.namings(v, w);
        x.who(v, w);
        x.named(v, w);
        x.next(v, w);
        return 0;
    }

    private static int askThree(StonesAlike x, int n, int v) {
        for (int w = -1; w <= 4; w++) {
            x.fits(n, v, w);
            x.share(n, v, w);
        }
        return 0;
    }
}
