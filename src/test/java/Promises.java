import java.util.NoSuchElementException;

/** For each promise of the document: ordinary inputs, the edges that it names, and wrong inputs. */
public final class Promises {
    private static int wrong = 0;
    private static int asked = 0;

    private static void due(int promise, String what, long got, long want) {
        asked++;
        if (got != want) {
            wrong++;
            System.out.println("promise " + promise + ": " + what + " answered " + got + ", due is " + want);
        }
    }

    private static void due(int promise, String what, boolean got, boolean want) {
        due(promise, what, got ? 1 : 0, want ? 1 : 0);
    }

    /** Feeds a text and blanks up to a multiple of twenty. */
    private static void feedText(StonesAlike x, String text) {
        int[] words = new int[(text.length() + 19) / 20 * 5];
        for (int i = 0; i < words.length * 4; i++) {
            int sign = i < text.length() ? text.charAt(i) : ' ';
            words[i / 4] |= sign << (24 - 8 * (i % 4));
        }
        for (int i = 0; i < words.length; i += 5) {
            x.feed(words[i], words[i + 1], words[i + 2], words[i + 3], words[i + 4]);
        }
    }

    private static int charter(StonesAlike x, String text) {
        feedText(x, text);
        return x.charter(text.length());
    }

    private static int letter(StonesAlike x, String text) {
        feedText(x, text);
        return x.letter(text.length());
    }

    private static StonesAlike ruled(String text) {
        StonesAlike x = new StonesAlike();
        if (charter(x, text) < 0) {
            wrong++;
            System.out.println("the charter '" + text + "' was refused");
        }
        return x;
    }

    private static void charterFault(String text, int fault, int place) {
        StonesAlike x = new StonesAlike();
        due(3, "charter '" + text + "'", charter(x, text), StonesAlike.NONE);
        due(5, "fault(0) of '" + text + "'", x.fault(0), fault);
        due(5, "fault(1) of '" + text + "'", x.fault(1), place);
    }

    private static void letterFault(StonesAlike x, String text, int fault, int place) {
        due(4, "letter '" + text + "'", letter(x, text), StonesAlike.NONE);
        due(5, "fault(0) of '" + text + "'", x.fault(0), fault);
        due(5, "fault(1) of '" + text + "'", x.fault(1), place);
    }

    public static void main(String[] args) {
        newObject();
        feed();
        charters();
        charterFaults();
        letters();
        letterFaults();
        land();
        stands();
        men();
        bodiesAndNotes();
        weeksAndWall();
        near();
        fits();
        strikes();
        namings();
        sureNamings();
        readNext();
        missingAndShares();
        yard();
        orders();
        look();
        System.out.println("Promises: " + asked + " answers, " + wrong + " wrong");
        if (wrong != 0) {
            System.exit(1);
        }
    }

    private static void newObject() {
        StonesAlike x = new StonesAlike();
        int[] counts = {0, 0, 0, 0, 0, 0, 0, 66, 4, 18, 10};
        for (int what = 0; what < counts.length; what++) {
            due(1, "count(" + what + ")", x.count(what), counts[what]);
        }
        due(1, "NONE", StonesAlike.NONE, -1);
        due(1, "wall", x.wall(), 0);
        due(1, "fault(0)", x.fault(0), 0);
        due(1, "fault(1)", x.fault(1), -1);
        due(1, "line(0)", x.line(0), -1);
        due(1, "last cell", x.dig(15), 0);
        due(1, "cell beyond", x.dig(16), -1);
        due(1, "tape is empty", x.letter(1), -2);
        due(31, "count(-1)", x.count(-1), -1);
        due(31, "count(11)", x.count(11), -1);
        due(31, "count(least)", x.count(Integer.MIN_VALUE), -1);
    }

    private static void feed() {
        StonesAlike x = new StonesAlike();
        for (int i = 1; i <= 20; i++) {
            due(2, "feed " + i, x.feed(-1, 0, 1, 2, 3), 20 * i);
        }
        due(2, "feed beyond 400", x.feed(0, 0, 0, 0, 0), -1);
        due(2, "401 are not there", x.letter(401), -2);
        due(2, "the tape stays", x.feed(0, 0, 0, 0, 0), -1);
        due(2, "400 are there", x.letter(400), -1);
        due(2, "byte 255 is another sign", x.fault(0), 1);
        due(2, "at 0", x.fault(1), 0);
        due(2, "empty then", x.feed(0x61626364, 0x65666768, 0x696a6b6c, 0x6d6e6f70, 0x71727374), 20);
        due(2, "highest first", x.letter(18), 1);
        due(2, "all of it", x.line(0), 18);
        x.feed(0x61620063, 0, 0, 0, 0);
        due(2, "a byte 0", x.letter(4), -1);
        due(2, "third of the first number", x.fault(1), 2);
    }

    private static void charters() {
        StonesAlike x = new StonesAlike();
        due(3, "n below 0", x.charter(-1), -2);
        due(3, "too many", x.charter(1), -2);
        due(3, "nothing at all", x.charter(0), 0);
        due(3, "blanks", charter(x, " \n  "), 0);
        due(3, "all kinds of lines",
                charter(x, "may disc 1 button boots teeth 8 near 0;sure near 7;letters 1;lines 6;\nwide 30;recut 99;bar a;bar b;"), 8);
        int[] counts = {2, 1, 6, 30, 99};
        for (int i = 0; i < counts.length; i++) {
            due(31, "count(" + (6 + i) + ")", x.count(6 + i), counts[i]);
        }
        due(3, "tape is empty then", x.letter(1), -2);
        charter(x, "wide 9; may;");
        due(3, "one with a fault leaves the old one", x.count(9), 30);
        due(3, "its proofs too", x.count(6), 2);
        due(3, "tape is empty with a fault", x.letter(1), -2);
        due(3, "words without blanks", charter(x, "wide7;letters007;may disc0002boots;"), 3);
        due(3, "wide", x.count(9), 7);
        due(3, "letters", x.count(7), 7);
        due(3, "lines is told no more", x.count(8), 4);
        due(3, "recut is told no more", x.count(10), 10);
        feedText(x, "wide 12; wide 9;");
        due(3, "only the first n", x.charter(8), 1);
        due(3, "wide 12", x.count(9), 12);
        feedText(x, "wide 99;");
        due(3, "a number ends with the first n", x.charter(6), -1);
        due(5, "its end is missing", x.fault(0), 1);
        due(5, "at the length", x.fault(1), 6);
        feedText(x, "bar ab;");
        due(3, "a word ends with the first n", x.charter(2), -1);
        due(5, "another word", x.fault(1), 0);
        feedText(x, "wide 12;");
        x.charter(8);
        due(3, "-2 leaves the fault", x.charter(-5), -2);
        due(5, "no fault", x.fault(0), 0);
        due(5, "no place", x.fault(1), -1);
        due(5, "fault(2)", x.fault(2), -1);
        due(5, "fault(-1)", x.fault(-1), -1);
        charter(x, "x");
        x.letter(1);
        due(5, "fault stays after -2", x.fault(0), 1);
        due(5, "place stays after -2", x.fault(1), 0);
        letter(x, "");
        due(5, "a letter's fault next", x.fault(0), 0);
        due(3, "eight W in all", charter(x, "bar abcdefgh may sure wide;bar disc near bar letters;"), 2);
    }

    private static void charterFaults() {
        charterFault(";", 1, 0);
        charterFault("may", 1, 3);
        charterFault("may  ", 1, 5);
        charterFault("may boots;;", 1, 10);
        charterFault("may boots 1;", 1, 10);
        charterFault("may disc disc 1;", 1, 9);
        charterFault("may may boots;", 1, 4);
        charterFault("wide wide;", 1, 5);
        charterFault("wide 9", 1, 6);
        charterFault("wide 9 9;", 1, 7);
        charterFault("1;", 1, 0);
        charterFault("mays boots;", 1, 0);
        charterFault("ma boots;", 1, 0);
        charterFault("May boots;", 1, 0);
        charterFault("may\tboots;", 1, 3);
        charterFault("may boots;\r", 1, 10);
        charterFault("bar 1;", 1, 4);
        charterFault("bar a 1;", 1, 6);
        charterFault("bar a", 1, 5);
        charterFault("bar aB;", 1, 5);
        charterFault("may near;", 1, 8);
        charterFault("day boots;", 1, 0);
        charterFault("may doots;", 1, 4);
        charterFault("may boot;", 1, 4);
        charterFault("zz;", 1, 0);
        charterFault("bar z{;", 1, 5);
        charterFault("may disc 0;", 2, 9);
        charterFault("may disc 5;", 2, 9);
        charterFault("may teeth 9;", 2, 10);
        charterFault("may near 8;", 2, 9);
        charterFault("letters 67;", 2, 8);
        charterFault("wide 4;", 2, 5);
        charterFault("recut 0;", 2, 6);
        charterFault("letters 9:", 1, 9);
        charterFault("letters /;", 1, 8);
        charterFault("may teeth 0;", 2, 10);
        charterFault("may near 99999999999999999999;", 2, 9);
        charterFault("may near 4294967296;", 2, 9);
        charterFault("letters 0;", 2, 8);
        charterFault("lines 0;", 2, 6);
        charterFault("lines 7;", 2, 6);
        charterFault("wide 31;", 2, 5);
        charterFault("recut 100;", 2, 6);
        charterFault("may disc 1 boots disc 9;", 3, 17);
        charterFault("may disc 1 teeth 1 near 1 boots button near 9;", 3, 39);
        charterFault("letters 9;letters 99;", 3, 10);
        charterFault("recut 9;lines 1;recut", 3, 16);
        charterFault("lines 1;wide 9;lines 1;", 3, 15);
        charterFault("bar a;bar b a;", 3, 12);
        charterFault("bar a b c d;bar e f g h a;", 2, 24);
        charterFault("bar a b c d;bar e f g h;bar a;", 2, 28);
        charterFault("bar abcdefgh abcdefghi;", 2, 13);
        charterFault("wide 99 ?", 2, 5);
        StonesAlike x = new StonesAlike();
        String twelve = "may near 1;".repeat(11) + "sure near 1;";
        due(3, "twelve proofs and more", charter(x, twelve + "wide 8;"), 13);
        due(3, "a thirteenth", charter(x, twelve + "sure x"), -1);
        due(5, "too much", x.fault(0), 2);
        due(5, "at its word", x.fault(1), twelve.length());
        due(3, "two tests of a kind in two lines", charter(x, "may boots;may boots;"), 2);
    }

    private static void letters() {
        StonesAlike x = ruled("wide 5;lines 6;letters 40;bar war;");
        due(4, "n below 0", x.letter(-1), -2);
        due(4, "too many", x.letter(1), -2);
        due(4, "exact room", letter(x, "ab cd ef"), 2);
        due(6, "line 0", x.line(0), 5);
        due(6, "line 1", x.line(1), 2);
        due(6, "line 2", x.line(2), -1);
        due(6, "line -1", x.line(-1), -1);
        due(6, "line of the greatest number", x.line(Integer.MAX_VALUE), -1);
        due(4, "one sign too many for a line", letter(x, "ab cde f"), 2);
        due(6, "line 0", x.line(0), 2);
        due(6, "line 1", x.line(1), 5);
        due(4, "six lines", letter(x, "aaaaa b,... c.... ddddd eeeee fffff"), 6);
        for (int k = 0; k < 6; k++) {
            due(6, "line " + k, x.line(k), 5);
        }
        due(6, "line 6", x.line(6), -1);
        letter(x, "war");
        due(6, "a fault leaves the lines", x.line(5), 5);
        charter(x, "wide 30;");
        due(6, "a charter leaves the lines", x.line(5), 5);
        feedText(x, "ab{");
        due(4, "only the first n", x.letter(2), 1);
        due(6, "two signs", x.line(0), 2);
        due(4, "nothing at all", letter(x, ""), 0);
        due(6, "no lines", x.line(0), -1);
        StonesAlike y = new StonesAlike();
        due(4, "66 signs, 18 wide, 4 lines", letter(y, "abcdefghijklmnopqr abcdefghijklmnopqr abcdefghijklmnopqr abcdefghi"), 4);
        due(6, "line 3", y.line(3), 9);
    }

    private static void letterFaults() {
        StonesAlike x = ruled("wide 6;lines 2;letters 12;bar war god abcdefgh;");
        letterFault(x, "a-b  c", 1, 1);
        letterFault(x, "a\nb", 1, 1);
        letterFault(x, "aaaaaaaaaaaaaA", 1, 13);
        letterFault(x, "abc{", 1, 3);
        letterFault(x, "abc`", 1, 3);
        letterFault(x, "a1", 1, 1);
        letterStands(x, "zaz z.");
        letterFault(x, " aaaaaaaaaaaa", 2, 12);
        letterFault(x, "             ", 2, 12);
        letterFault(x, " ", 3, 0);
        letterFault(x, "  a", 3, 0);
        letterFault(x, "a  b ", 3, 2);
        letterFault(x, "a  ", 3, 2);
        letterFault(x, "aaaaaaa b ", 3, 9);
        letterFault(x, "a bbbbbb.", 4, 2);
        letterStands(x, "a b c d e f");
        letterFault(x, "aaaaaa b cccc", 2, 12);
        letterStands(x, "aaaaa bb ccc");
        letterStands(x, "aaaaa bbb cc");
        letterFault(x, "aaaa bbbb cc", 5, 10);
        letterFault(x, "war aaaa bb", 5, 9);
        letterFault(x, "war", 6, 0);
        letterFault(x, "a war.", 6, 2);
        letterFault(x, "a war.,.", 6, 2);
        letterFault(x, "war,.,", 6, 0);
        letterFault(x, "gods god,", 6, 5);
        letterStands(x, ".war");
        letterStands(x, "wa,r");
        letterStands(x, "wars");
        letterStands(x, "wa r");
        letterStands(x, "...");
        StonesAlike y = ruled("bar abcdefgh;");
        due(4, "a longer word is no W", letter(y, "abcdefghi"), 1);
        due(4, "one of eight letters is", letter(y, "abcdefgh."), -1);
    }

    private static void letterStands(StonesAlike x, String text) {
        due(4, "'" + text + "' has no fault", letter(x, text) > 0, true);
        due(5, "fault(0) of '" + text + "'", x.fault(0), 0);
        due(5, "fault(1) of '" + text + "'", x.fault(1), -1);
    }

    private static void land() {
        StonesAlike x = ruled("may near 7;recut 1;");
        x.stand(0, 0, 0, 9);
        x.man(0, 1, 1, 1, 1);
        x.body(3);
        x.dig(4);
        x.field(7);
        x.capacity(3);
        x.weeks(1);
        x.man(0, 2, 1, 1, 1);
        x.weeks(1);
        due(7, "wall before", x.wall(), 3);
        for (int[] bad : new int[][] {{1, 2}, {2, 1}, {6, 5}, {5, 6}, {-1, 2}, {0, 0}, {Integer.MAX_VALUE, 2}}) {
            due(7, "land " + bad[0] + " " + bad[1], x.land(bad[0], bad[1]), false);
        }
        due(7, "men stay with false", x.count(0), 2);
        due(7, "week stays with false", x.count(5), 2);
        due(7, "land(5, 2)", x.land(5, 2), true);
        int[] counts = {0, 0, 0, 0, 1, 0, 1};
        for (int what = 0; what < counts.length; what++) {
            due(7, "count(" + what + ")", x.count(what), counts[what]);
        }
        due(7, "the charter stays", x.count(10), 1);
        due(7, "nobody is on the wall", x.wall(), 0);
        due(7, "capacity stays", x.plan(1), 2);
        due(7, "last cell", x.body(9), 0);
        due(7, "cell beyond", x.body(10), -1);
        x.stand(0, 5, 0, 0);
        x.man(0, 0, 0, 0, 0);
        due(7, "rows of five", x.near(0, 4), 4);
        due(7, "under each other", x.near(0, 0), 1);
        due(7, "land(5, 5)", x.land(5, 5), true);
        due(7, "last of 25", x.dig(24), 0);
        due(7, "beyond 25", x.dig(25), -1);
    }

    private static void stands() {
        StonesAlike x = new StonesAlike();
        int[][] bad = {{-1, 0, 0, 0}, {6, 0, 0, 0}, {0, -1, 0, 0}, {0, 16, 0, 0}, {0, 0, -1, 0}, {0, 0, 0, 1000}, {0, 0, 5, 4}, {0, 0, 1000, 1000}, {0, 0, -2, -1}};
        for (int[] b : bad) {
            due(8, "stand that can't be", x.stand(b[0], b[1], b[2], b[3]), -1);
        }
        for (int i = 0; i < 20; i++) {
            due(8, "stand " + i, x.stand(i % 6, i % 16, i == 0 ? 0 : i, i == 0 ? 999 : i), i);
        }
        due(8, "a 21st", x.stand(0, 0, 0, 0), -1);
        due(31, "stands", x.count(1), 20);
    }

    private static void men() {
        StonesAlike x = new StonesAlike();
        int[][] bad = {{-1, 0, 0, 0, 0}, {6, 0, 0, 0, 0}, {0, -1, 0, 0, 0}, {0, 10000, 0, 0, 0}, {0, 0, -1, 0, 0}, {0, 0, 1000, 0, 0}, {0, 0, 0, -1, 0}, {0, 0, 0, 10, 0}, {0, 0, 0, 0, -1}, {0, 0, 0, 0, 256}};
        for (int[] b : bad) {
            due(9, "man who can't be", x.man(b[0], b[1], b[2], b[3], b[4]), -1);
        }
        for (int i = 0; i < 14; i++) {
            due(9, "man " + i, i % 2 == 0 ? x.man(5, 9999, 999, 9, 255) : x.man(0, 0, 0, 0, 0), i);
        }
        due(9, "a 15th", x.man(0, 0, 0, 0, 0), -1);
        due(31, "men", x.count(0), 14);
        due(21, "fourteen are missing", x.missing(0), 16383);
    }

    private static void bodiesAndNotes() {
        StonesAlike x = new StonesAlike();
        due(10, "body(-1)", x.body(-1), -1);
        due(11, "no body yet", x.read(0, 1, 0, 0), -1);
        due(13, "no note yet", x.strike(0), -1);
        for (int i = 0; i < 10; i++) {
            due(10, "body " + i, x.body(15), i);
        }
        due(10, "an 11th", x.body(0), -1);
        int[][] bad = {{-1, 1, 0, 0}, {10, 1, 0, 0}, {0, -1, 0, 0}, {0, 4, 0, 0}, {0, 0, -1, 0}, {0, 0, 4, 0}, {0, 0, 0, -1}, {0, 0, 0, 10}, {0, 1, 0, -1}, {0, 1, 0, 6}, {0, 2, 0, -1}, {0, 2, 0, 10}, {0, 3, -1, 0}, {0, 3, 8, 0}, {0, 3, 0, -1}, {0, 3, 0, 2}};
        for (int[] b : bad) {
            due(11, "read " + b[0] + " " + b[1] + " " + b[2] + " " + b[3], x.read(b[0], b[1], b[2], b[3]), -1);
        }
        int[][] good = {{0, 0, 0, 0}, {9, 0, 3, 9}, {0, 1, -7, 5}, {0, 1, 99, 0}, {0, 2, Integer.MIN_VALUE, 9}, {0, 2, 4, 0}, {0, 3, 7, 1}, {0, 3, 0, 0}};
        int note = 10;
        for (int[] g : good) {
            due(11, "read", x.read(g[0], g[1], g[2], g[3]), note);
            note++;
        }
        due(12, "dig(-1)", x.dig(-1), -1);
        due(12, "dig(16)", x.dig(16), -1);
        due(12, "dig(0)", x.dig(0), note);
        due(12, "dug again", x.dig(0), note + 1);
        due(13, "strike(-1)", x.strike(-1), -1);
        due(13, "itself is not yet there", x.strike(note + 2), -1);
        due(13, "strike", x.strike(note + 1), note + 2);
        due(13, "struck again", x.strike(note + 1), note + 3);
        note += 4;
        for (; note < 90; note++) {
            due(12, "dig", x.dig(3), note);
        }
        due(31, "notes", x.count(3), 90);
        due(31, "bodies", x.count(2), 10);
        due(12, "a 91st: dig", x.dig(0), -1);
        due(13, "a 91st: strike", x.strike(0), -1);
        due(11, "a 91st: read", x.read(0, 1, 0, 0), -1);
        x.land(4, 4);
        for (int i = 0; i < 90; i++) {
            x.dig(0);
        }
        due(10, "a body as a 91st note", x.body(0), -1);
        due(31, "no body", x.count(2), 0);
    }

    private static void weeksAndWall() {
        StonesAlike x = ruled("sure button;recut 7;");
        x.man(0, 0, 0, 0, 0);
        x.man(1, 0, 0, 0, 0);
        due(14, "weeks(0)", x.weeks(0), 0);
        due(24, "week 0 has not gone by", x.wall(), 0);
        due(14, "weeks(6)", x.weeks(6), 6);
        due(24, "not yet", x.wall(), 0);
        due(14, "weeks(1)", x.weeks(1), 7);
        due(24, "cut in week 7", x.wall(), 3);
        x.body(0);
        x.read(0, 1, 0, 1);
        due(21, "one is found", x.missing(2), 1);
        due(14, "weeks(0) in week 7", x.weeks(0), 7);
        due(24, "week 7 has gone by before", x.wall(), 3);
        x.weeks(6);
        due(24, "week 13", x.wall(), 3);
        x.weeks(2);
        due(24, "past week 14", x.wall(), 1);
        x.strike(1);
        charter(x, "");
        x.weeks(4);
        due(24, "recut is 10 now, and it is week 19", x.wall(), 1);
        x.weeks(1);
        due(24, "week 20", x.wall(), 3);
        charter(x, "sure boots;recut 3;");
        x.read(0, 2, 0, 0);
        x.man(2, 0, 0, 1, 0);
        due(24, "nobody comes onto it between", x.wall(), 3);
        x.weeks(1);
        due(24, "two with these boots", x.wall(), 7);
        x.strike(0);
        due(24, "a strike doesn't cut", x.wall(), 7);
        due(14, "weeks(-1)", x.weeks(-1), -1);
        due(14, "weeks(1000)", x.weeks(1000), -1);
        due(14, "weeks(least)", x.weeks(Integer.MIN_VALUE), -1);
        for (int i = 1; i <= 9; i++) {
            due(14, "weeks(999)", x.weeks(999), 21 + 999 * i);
        }
        due(14, "beyond 9999", x.weeks(988), -1);
        due(31, "the week stays", x.count(5), 9012);
        due(14, "up to 9999", x.weeks(987), 9999);
        due(14, "none more", x.weeks(1), -1);
        due(14, "none at all", x.weeks(0), 9999);
    }

    private static void near() {
        StonesAlike x = new StonesAlike();
        x.stand(2, 0, 10, 20);
        x.stand(2, 15, 20, 30);
        x.stand(3, 5, 0, 999);
        x.man(2, 0, 10, 0, 0);
        x.man(2, 0, 20, 0, 0);
        x.man(2, 0, 30, 0, 0);
        x.man(2, 0, 9, 0, 0);
        x.man(2, 0, 31, 0, 0);
        due(15, "first day", x.near(0, 3), 3);
        due(15, "both cells: the least", x.near(1, 14), 1);
        due(15, "both cells: the least", x.near(1, 1), 1);
        due(15, "last day", x.near(2, 0), 3);
        due(15, "in its cell", x.near(2, 15), 0);
        due(15, "too early", x.near(3, 0), -1);
        due(15, "too late", x.near(4, 0), -1);
        due(15, "the greater difference", x.near(0, 6), 2);
        due(15, "no such man", x.near(5, 0), -1);
        due(15, "no such man", x.near(-1, 0), -1);
        due(15, "no such cell", x.near(0, -1), -1);
        due(15, "no such cell", x.near(0, 16), -1);
    }

    private static void fits() {
        StonesAlike x = ruled("may disc 2 near 1;may teeth 2 boots;sure disc 3 button;");
        x.stand(0, 0, 0, 9);
        x.man(0, 42, 5, 3, 5);
        x.man(1, 47, 5, 3, 5);
        due(16, "no body", x.fits(0, 0, 0), -1);
        x.body(5);
        due(16, "no proof", x.fits(1, 0, 0), 1);
        due(16, "no such n", x.fits(2, 0, 0), -1);
        due(16, "no such n", x.fits(-1, 0, 0), -1);
        due(16, "no such man", x.fits(1, 0, 2), -1);
        due(16, "no such man", x.fits(1, 0, -1), -1);
        due(16, "no such body", x.fits(1, 1, 0), -1);
        due(16, "no such body", x.fits(1, -1, 0), -1);
        due(16, "not yet known", x.fits(0, 0, 0), -1);
        x.read(0, 0, 0, 0);
        x.read(0, 0, 0, 0);
        due(16, "one place read twice", x.fits(3, 0, 0), 1);
        x.read(0, 0, 2, 4);
        due(16, "two places and near 1", x.fits(4, 0, 0), 2);
        due(16, "his unit was nowhere", x.fits(4, 0, 1), 1);
        x.read(0, 3, 0, 1);
        x.read(0, 3, 1, 0);
        x.read(0, 2, 0, 3);
        due(16, "a second line", x.fits(6, 0, 1), 1);
        due(16, "a second line", x.fits(7, 0, 1), 2);
        x.read(0, 0, 1, 0);
        x.read(0, 1, 0, 0);
        due(16, "three places, no button", x.fits(8, 0, 0), 2);
        due(16, "surely", x.fits(9, 0, 0), 3);
        due(16, "the button quarrels", x.fits(9, 0, 1), 0);
        x.read(0, 1, 0, 1);
        due(16, "the later button counts", x.fits(10, 0, 0), 0);
        due(16, "the other one now", x.fits(10, 0, 1), 3);
        due(16, "as known before", x.fits(9, 0, 0), 3);
        x.read(0, 3, 2, 0);
        due(16, "a tooth quarrels", x.fits(11, 0, 1), 0);
        x.read(0, 3, 2, 1);
        due(16, "and the later doesn't", x.fits(12, 0, 1), 3);
        x.man(1, 49, 5, 3, 5);
        due(16, "two alike: neither surely", x.fits(12, 0, 1), 2);
        due(16, "two alike: neither surely", x.fits(12, 0, 2), 2);
        x.read(0, 0, 3, 9);
        due(16, "the last digit parts them", x.fits(13, 0, 2), 3);
        due(16, "the last digit parts them", x.fits(13, 0, 1), 0);
        StonesAlike y = ruled("sure near 1;");
        y.stand(0, 0, 0, 9);
        y.stand(1, 3, 0, 9);
        y.man(0, 0, 1, 0, 0);
        y.man(1, 0, 1, 0, 0);
        y.body(1);
        y.body(2);
        y.man(1, 0, 10, 0, 0);
        due(16, "near him alone", y.fits(1, 0, 0), 3);
        due(16, "too far", y.fits(1, 0, 1), 1);
        due(16, "nowhere is not near", y.fits(1, 0, 2), 1);
        due(16, "near the other", y.fits(2, 1, 1), 3);
    }

    private static void strikes() {
        StonesAlike x = ruled("may button;may near 0;");
        x.man(0, 0, 0, 0, 0);
        x.man(1, 0, 0, 0, 0);
        x.body(3);
        x.read(0, 1, 0, 0);
        x.read(0, 1, 0, 1);
        due(13, "the later", x.fits(3, 0, 1), 2);
        x.strike(2);
        due(13, "the earlier again", x.fits(4, 0, 0), 2);
        due(13, "as known by 3", x.fits(3, 0, 0), 0);
        x.strike(3);
        due(13, "a strike that is struck", x.fits(5, 0, 0), 0);
        x.strike(4);
        due(13, "and once more", x.fits(6, 0, 0), 2);
        x.strike(0);
        due(16, "the body isn't known", x.fits(7, 0, 0), -1);
        due(18, "the body isn't known", x.who(7, 0), -1);
        due(19, "the body isn't known", x.named(7, 0), -1);
        due(20, "the body isn't known", x.next(7, 0), -1);
        due(17, "nothing to name", x.namings(7, 0), 0);
        due(17, "one way", x.namings(7, 1), 1);
        due(11, "it can still be read", x.read(0, 1, 0, 1), 7);
        due(31, "it still is one of the bodies", x.count(2), 1);
        due(10, "the next number", x.body(3), 1);
        due(16, "readings are its own", x.fits(9, 1, 0), 1);
        x.strike(6);
        due(16, "known again, with what was read", x.fits(10, 0, 1), 2);
    }

    private static void namings() {
        StonesAlike x = ruled("may near 7;");
        x.stand(0, 0, 0, 0);
        for (int i = 0; i < 14; i++) {
            x.man(0, i, 0, 0, 0);
        }
        for (int i = 0; i < 10; i++) {
            x.body(0);
        }
        due(17, "ten of fourteen", x.namings(10, 0), 10);
        due(17, "14! by 4!", x.namings(10, 1), 3632428800L);
        due(17, "all 14 for the third", x.namings(3, 1), 14 * 13 * 12);
        due(18, "anybody", x.who(10, 9), 16383);
        due(18, "not yet known", x.who(9, 9), -1);
        due(19, "nobody is named", x.named(10, 9), -1);
        due(21, "all are missing", x.missing(10), 16383);
        due(17, "no such what", x.namings(10, 2), -1);
        due(17, "no such what", x.namings(10, -1), -1);
        due(17, "no such n", x.namings(11, 0), -1);
        due(17, "no such n", x.namings(-1, 0), -1);
        due(18, "no such n", x.who(11, 0), -1);
        due(18, "no such n", x.who(-1, 0), -1);
        due(18, "no such body", x.who(10, 10), -1);
        due(18, "no such body", x.who(10, -1), -1);
        due(19, "no such ones", x.named(11, 0), -1);
        due(19, "no such ones", x.named(10, 10), -1);
        due(21, "no such n", x.missing(11), -1);
        due(21, "no such n", x.missing(-1), -1);
        // Two bodies of unit 1 and two men of it leave a third body the one of unit 0 alone.
        StonesAlike y = ruled("may button;may boots;");
        y.man(1, 0, 0, 4, 0);
        y.man(1, 0, 0, 4, 0);
        y.man(0, 0, 0, 4, 0);
        y.body(0);
        y.body(0);
        y.body(0);
        y.read(0, 1, 0, 1);
        y.read(1, 1, 0, 1);
        y.read(2, 2, 0, 4);
        due(17, "three have one", y.namings(6, 0), 3);
        due(17, "two ways", y.namings(6, 1), 2);
        due(16, "it may be any", y.fits(6, 2, 0), 2);
        due(18, "but all named together", y.who(6, 2), 4);
        due(19, "named", y.named(6, 2), 2);
        due(18, "one of two", y.who(6, 0), 3);
        due(21, "missing", y.missing(6), 3);
        y.body(0);
        y.read(3, 2, 0, 4);
        due(17, "four bodies, three men", y.namings(8, 0), 3);
        due(18, "anybody now", y.who(8, 2), 7);
        due(18, "a body with nobody to be", y.who(7, 3), 0);
        due(21, "missing", y.missing(8), 7);
    }

    private static void sureNamings() {
        StonesAlike x = ruled("may boots;sure button boots;");
        x.man(0, 0, 0, 1, 0);
        x.man(1, 0, 0, 1, 0);
        x.body(0);
        x.body(0);
        x.read(0, 2, 0, 1);
        x.read(0, 1, 0, 0);
        x.read(1, 2, 0, 1);
        due(17, "the sure one has him", x.who(5, 0), 1);
        due(18, "the other has who is left", x.who(5, 1), 2);
        due(17, "one way", x.namings(5, 1), 1);
        due(21, "nobody is missing", x.missing(5), 0);
        x.read(1, 1, 0, 0);
        due(16, "surely too", x.fits(6, 1, 0), 3);
        due(17, "two surely the same: one has him", x.namings(6, 0), 1);
        due(17, "two ways", x.namings(6, 1), 2);
        due(18, "either", x.who(6, 0), 1);
        due(18, "either", x.who(6, 1), 1);
        due(19, "neither is named", x.named(6, 0), -1);
        due(21, "both are missing", x.missing(6), 3);
        // A body that surely is a man keeps him, although more bodies could have one without.
        StonesAlike y = ruled("may boots;sure boots near 0;");
        y.stand(0, 0, 0, 9);
        y.man(0, 0, 0, 1, 0);
        y.man(1, 0, 0, 1, 0);
        y.body(0);
        y.body(1);
        y.read(0, 2, 0, 1);
        due(16, "may be the second too", y.fits(3, 0, 1), 2);
        due(16, "surely the first", y.fits(3, 0, 0), 3);
        due(18, "he alone", y.who(3, 0), 1);
        due(19, "named", y.named(3, 0), 0);
        y.body(0);
        y.read(2, 2, 0, 1);
        due(18, "two surely the same: each as it may be", y.who(5, 0), 3);
        due(17, "two have one", y.namings(5, 0), 2);
        due(17, "two ways", y.namings(5, 1), 2);
        y.strike(3);
        due(18, "a body that isn't known is no other", y.who(6, 0), 1);
    }

    private static void readNext() {
        StonesAlike x = ruled("may near 7;");
        x.stand(0, 0, 0, 9);
        x.man(0, 1111, 0, 1, 7);
        x.man(0, 1112, 0, 2, 3);
        x.man(0, 1121, 0, 3, 5);
        x.man(0, 1122, 0, 3, 6);
        x.body(0);
        due(20, "two alike by place 2", x.next(1, 0), 2);
        x.read(0, 0, 2, 1);
        due(18, "two left", x.who(2, 0), 3);
        due(20, "place 3 parts them", x.next(2, 0), 3);
        x.read(0, 0, 3, 1);
        due(19, "named", x.named(3, 0), 0);
        due(20, "named: nothing", x.next(3, 0), -1);
        due(20, "no such n", x.next(4, 0), -1);
        due(20, "no such n", x.next(-1, 0), -1);
        due(20, "no such body", x.next(3, 1), -1);
        due(20, "no such body", x.next(3, -1), -1);
        x.strike(1);
        x.strike(2);
        x.read(0, 0, 2, 9);
        due(18, "nobody", x.who(6, 0), 0);
        due(20, "nobody: nothing", x.next(6, 0), -1);
        // Boots part three of four, no digit parts more than two, teeth part halves.
        StonesAlike y = ruled("may near 7;");
        y.stand(0, 0, 0, 9);
        y.man(0, 0, 0, 1, 0);
        y.man(0, 0, 0, 2, 128);
        y.man(0, 0, 0, 3, 128);
        y.body(0);
        due(20, "boots", y.next(1, 0), 5);
        y.man(0, 0, 0, 1, 0);
        y.man(0, 0, 0, 1, 128);
        due(20, "three alike in boots and in tooth 7: the least", y.next(1, 0), 5);
        y.read(0, 2, 0, 1);
        due(20, "tooth 7 of three", y.next(2, 0), 13);
        StonesAlike z = ruled("may near 7;");
        z.stand(0, 0, 0, 9);
        z.man(0, 0, 0, 0, 0);
        z.man(0, 0, 0, 0, 0);
        z.body(0);
        int[] kinds = {0, 0, 0, 0, 1, 2, 3, 3, 3, 3, 3, 3, 3, 3};
        int[] places = {0, 1, 2, 3, 0, 0, 0, 1, 2, 3, 4, 5, 6, 7};
        for (int thing = 0; thing < 14; thing++) {
            due(20, "alike in all: the least not read", z.next(1 + thing, 0), thing);
            z.read(0, kinds[thing], places[thing], 0);
        }
        due(20, "all is read", z.next(15, 0), -1);
        z.strike(5);
        due(20, "what was read and struck", z.next(16, 0), 4);
    }

    private static void missingAndShares() {
        StonesAlike x = ruled("sure button;");
        x.land(2, 3);
        x.stand(0, 0, 0, 9);
        x.man(0, 0, 5, 0, 0);
        x.man(1, 0, 5, 0, 0);
        due(22, "his cell, and a sixth of who was nowhere", x.share(0, 0, 0), 7);
        due(22, "lower", x.share(0, 0, 1), 6);
        due(22, "another cell", x.share(0, 5, 0), 1);
        due(22, "another cell", x.share(0, 5, 1), 6);
        due(23, "likely", x.likely(0), 0);
        due(22, "no such n", x.share(1, 0, 0), -1);
        due(22, "no such n", x.share(-1, 0, 0), -1);
        due(22, "no such cell", x.share(0, 6, 0), -1);
        due(22, "no such cell", x.share(0, -1, 0), -1);
        due(22, "no such what", x.share(0, 0, 2), -1);
        due(22, "no such what", x.share(0, 0, -1), -1);
        due(23, "no such n", x.likely(1), -1);
        due(23, "no such n", x.likely(-1), -1);
        x.dig(0);
        due(22, "dug", x.share(1, 0, 0), 0);
        due(22, "dug", x.share(1, 0, 1), 1);
        due(22, "a third and a fifth", x.share(1, 1, 0), 8);
        due(22, "a third and a fifth", x.share(1, 1, 1), 15);
        due(23, "of several the least", x.likely(1), 1);
        x.body(1);
        due(22, "holds a body", x.share(2, 1, 0), 0);
        due(22, "a half and a quarter", x.share(2, 2, 0), 3);
        due(22, "a half and a quarter", x.share(2, 2, 1), 4);
        x.read(0, 1, 0, 0);
        due(21, "one is found", x.missing(3), 2);
        due(22, "a quarter", x.share(3, 2, 0), 1);
        due(22, "a quarter", x.share(3, 2, 1), 4);
        x.read(0, 1, 0, 1);
        due(21, "the other is found", x.missing(4), 1);
        due(22, "far cells have none", x.share(4, 4, 0), 0);
        due(22, "a half", x.share(4, 3, 1), 2);
        x.dig(2);
        x.dig(3);
        due(22, "the next ones out", x.share(6, 4, 1), 2);
        x.dig(4);
        due(22, "all in one", x.share(7, 5, 0), 1);
        due(22, "all in one", x.share(7, 5, 1), 1);
        due(23, "likely", x.likely(7), 5);
        x.dig(5);
        due(23, "nowhere to dig", x.likely(8), -1);
        due(22, "nowhere to dig", x.share(8, 5, 0), 0);
        due(22, "nowhere to dig", x.share(8, 5, 1), 1);
        x.strike(0);
        due(23, "struck: not dug", x.likely(9), 0);
        // Nine cells about one corner and twenty-five in all.
        StonesAlike y = new StonesAlike();
        y.land(5, 5);
        y.man(0, 0, 0, 0, 0);
        due(22, "a twenty-fifth", y.share(0, 24, 1), 25);
        for (int i = 0; i < 7; i++) {
            y.dig(i);
            y.man(0, 0, 0, 0, 0);
        }
        due(22, "eight by eighteen", y.share(7, 24, 0), 4);
        due(22, "eight by eighteen", y.share(7, 24, 1), 9);
    }

    private static void yard() {
        StonesAlike x = new StonesAlike();
        due(25, "field(0)", x.field(0), -1);
        due(25, "field(1000)", x.field(1000), -1);
        due(25, "field(-1)", x.field(-1), -1);
        due(26, "no field", x.kin(0, 0, 0), false);
        due(28, "sum of nothing", x.plan(0), 0);
        due(28, "no season", x.plan(1), -1);
        due(28, "no place", x.plan(9), -1);
        due(28, "plan(-1)", x.plan(-1), -2);
        due(28, "plan(10)", x.plan(10), -2);
        due(25, "field(100)", x.field(100), 0);
        due(28, "100 at first: done in season 0", x.plan(1), 0);
        due(25, "field(1)", x.field(1), 1);
        due(28, "the 101st stone in season 1", x.plan(1), 1);
        due(27, "capacity(0)", x.capacity(0), false);
        due(27, "capacity(1000)", x.capacity(1000), false);
        due(27, "capacity(-5)", x.capacity(-5), false);
        due(28, "as before", x.plan(1), 1);
        due(27, "capacity(999)", x.capacity(999), true);
        due(28, "all in season 0", x.plan(1), 0);
        due(27, "capacity(1)", x.capacity(1), true);
        due(28, "the 101st stone", x.plan(1), 100);
        int[][] bad = {{-1, 0, 0}, {2, 0, 0}, {0, -1, 0}, {0, 21, 0}, {0, 0, -1}, {0, 0, 100}};
        for (int[] b : bad) {
            due(26, "no such kin", x.kin(b[0], b[1], b[2]), false);
        }
        due(26, "kin", x.kin(0, 20, 99), true);
        due(26, "kin", x.kin(1, 0, 5), true);
        due(28, "nobody lives so long", x.plan(0), 5);
        due(28, "field 1 first", x.plan(2), 1);
        x.capacity(5);
        due(28, "field 0 in season 20", x.plan(0), 104);
        due(29, "field 0 first: season 19", x.judge(8), 99);
        due(29, "field 1 first", x.judge(1), 104);
        x.kin(0, 20, 7);
        due(26, "told anew", x.plan(0), 12);
        x.kin(0, 19, 2);
        due(28, "one season too late", x.plan(0), 12);
        due(29, "who live up to and with it", x.judge(8), 9);
        x.kin(1, 20, 1);
        due(28, "several seasons", x.plan(0), 13);
        for (int i = 2; i < 8; i++) {
            due(25, "field", x.field(999), i);
        }
        due(25, "a ninth", x.field(1), -1);
        due(31, "fields", x.count(4), 8);
        due(28, "the last place", x.plan(9), 7);
        due(28, "the last season", x.plan(1), (101 + 6 * 999 - 1) / 5);
    }

    private static void orders() {
        StonesAlike x = new StonesAlike();
        due(29, "an order of none", x.judge(0), 0);
        due(29, "bits beyond", x.judge(-1), 0);
        x.capacity(10);
        for (int i = 0; i < 4; i++) {
            x.field(10);
        }
        int[] identity = {0, 1, 2, 3};
        for (int i = 0; i < 4; i++) {
            due(28, "alike: by numbers", x.plan(2 + i), identity[i]);
        }
        due(28, "no fifth", x.plan(6), -1);
        x.kin(3, 1, 9);
        x.kin(2, 0, 9);
        int[] order = {2, 3, 0, 1};
        for (int i = 0; i < 4; i++) {
            due(28, "the one that serves both", x.plan(2 + i), order[i]);
        }
        due(28, "sum", x.plan(0), 18);
        x.kin(2, 0, 0);
        int[] later = {0, 3, 1, 2};
        for (int i = 0; i < 4; i++) {
            due(28, "the first by numbers", x.plan(2 + i), later[i]);
        }
        due(29, "0 3 1 2", x.judge(3 << 3 | 1 << 6 | 2 << 9), 9);
        due(29, "with bits beyond", x.judge(3 << 3 | 1 << 6 | 2 << 9 | 5 << 12 | 1 << 31), 9);
        due(29, "0 1 2 3", x.judge(1 << 3 | 2 << 6 | 3 << 9), 0);
        due(29, "one twice", x.judge(3 << 3 | 3 << 6 | 2 << 9), -1);
        due(29, "no such field", x.judge(3 << 3 | 1 << 6 | 4 << 9), -1);
        due(29, "-1", x.judge(-1), -1);
        for (int i = 4; i < 8; i++) {
            x.field(1);
        }
        due(29, "eight", x.judge(1 << 3 | 2 << 6 | 3 << 9 | 4 << 12 | 5 << 15 | 6 << 18 | 7 << 21 | 127 << 24), 0);
        due(29, "eight, the last first", x.judge(7 | 3 << 3 | 2 << 6 | 1 << 9 | 4 << 12 | 5 << 15 | 6 << 18), 9);
    }

    /** 0 if look answers, 1 and 2 as it throws. */
    private static int thrown(StonesAlike x, int man, int what) {
        try {
            x.look(man, what);
            return 0;
        } catch (IndexOutOfBoundsException e) {
            return e.getClass() == IndexOutOfBoundsException.class ? 1 : 3;
        } catch (NoSuchElementException e) {
            return 2;
        }
    }

    private static void look() {
        StonesAlike x = new StonesAlike();
        due(30, "nobody", thrown(x, 0, 0), 1);
        x.man(5, 9, 998, 7, 254);
        x.man(1, 2, 3, 4, 5);
        int[] first = {5, 9, 998, 7, 254};
        for (int what = 0; what < 5; what++) {
            due(30, "look(0, " + what + ")", x.look(0, what), first[what]);
            due(30, "look(1, " + what + ")", x.look(1, what), what + 1);
        }
        due(30, "no such man", thrown(x, 2, 0), 1);
        due(30, "no such man", thrown(x, -1, 4), 1);
        due(30, "no such man", thrown(x, Integer.MIN_VALUE, 4), 1);
        due(30, "no such what", thrown(x, 1, 5), 2);
        due(30, "no such what", thrown(x, 0, -1), 2);
        due(30, "no such what", thrown(x, 0, Integer.MAX_VALUE), 2);
        due(30, "neither: the man is asked for first", thrown(x, 2, 5), 1);
        x.land(4, 4);
        due(30, "gone with the land", thrown(x, 0, 0), 1);
    }
}
