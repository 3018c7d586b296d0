import java.math.BigInteger;

/** Of each sentence of the document's Terms that names a boundary case: a test of its own. */
public final class BoundariesOfTerms extends Cases {
    public static void main(String[] args) {
        cellsAndUnits();
        men();
        distances();
        notes();
        readings();
        known();
        charterForm();
        charterNumbers();
        charterFaults();
        charterDefaults();
        proofs();
        namings();
        readNext();
        digging();
        letters();
        letterFaults();
        wall();
        fields();
        plans();
        end("BoundariesOfTerms", "Terms 1", "Terms 2", "Terms 3", "Terms 4", "Terms 5");
    }

    // Terms, part 1.

    private static void cellsAndUnits() {
        test("Terms 1", "CELLS of W by H (2 .. 5 each; 4 by 4 at first)");
        due("the last cell at first", new StonesAlike().dig(15), 0);
        due("one beyond it", new StonesAlike().dig(16), NONE);
        for (int w = 0; w <= 7; w++) {
            for (int h = 0; h <= 7; h++) {
                boolean can = w >= 2 && w <= 5 && h >= 2 && h <= 5;
                StonesAlike x = new StonesAlike();
                due("land(" + w + ", " + h + ")", x.land(w, h), can);
                due("its last cell", x.dig(can ? w * h - 1 : 15), 0);
                due("one beyond", x.dig(can ? w * h : 16), NONE);
            }
        }

        test("Terms 1", "numbered by rows");
        StonesAlike x = new StonesAlike();
        x.land(5, 2);
        x.stand(0, 5, 0, 0);
        x.man(0, 0, 0, 0, 0);
        due("5 is under 0 where rows have five", x.near(0, 0), 1);
        due("4 is at the other end of the first row", x.near(0, 4), 4);
        due("9 is at the other end of the second row", x.near(0, 9), 4);
        x.land(2, 5);
        x.stand(0, 5, 0, 0);
        x.man(0, 0, 0, 0, 0);
        due("5 is at the right of 4 where rows have two", x.near(0, 4), 1);
        due("7 is under it", x.near(0, 7), 1);
        due("0 is two rows above", x.near(0, 0), 2);

        test("Terms 1", "UNITS 0 .. 5");
        for (int unit : new int[] {LEAST, -1, 0, 5, 6, GREATEST}) {
            boolean can = unit == 0 || unit == 5;
            StonesAlike y = new StonesAlike();
            due("a stand of unit " + unit, y.stand(unit, 0, 0, 0), can ? 0 : NONE);
            due("a man of unit " + unit, y.man(unit, 0, 0, 0, 0), can ? 0 : NONE);
            y.body(0);
            due("a button of unit " + unit, y.read(0, 1, 0, unit), can ? 1 : NONE);
        }

        test("Terms 1", "STANDS, at most 20");
        StonesAlike z = new StonesAlike();
        for (int i = 0; i < 20; i++) {
            due("stand " + i, z.stand(0, i % 16, 0, 0), i);
        }
        due("a 21st", z.stand(0, 0, 0, 0), NONE);
        due("twenty stay", z.count(1), 20);

        test("Terms 1", "from a DAY to a DAY (0 .. 999, both with it)");
        StonesAlike days = new StonesAlike();
        days.stand(0, 0, 10, 20);
        days.stand(1, 0, 7, 7);
        days.stand(2, 0, 0, 999);
        int[][] seen = {{0, 9, NONE}, {0, 10, 3}, {0, 15, 3}, {0, 20, 3}, {0, 21, NONE},
                {1, 6, NONE}, {1, 7, 3}, {1, 8, NONE}, {2, 0, 3}, {2, 999, 3}};
        for (int i = 0; i < seen.length; i++) {
            days.man(seen[i][0], 0, seen[i][1], 0, 0);
            due("unit " + seen[i][0] + " on day " + seen[i][1], days.near(i, 3), seen[i][2]);
        }
        int[][] never = {{-1, 5}, {5, 1000}, {1000, 1000}, {-1, -1}, {-5, 1005}, {6, 5}, {999, 0}, {LEAST, GREATEST}};
        for (int[] d : never) {
            due("from " + d[0] + " to " + d[1], days.stand(0, 0, d[0], d[1]), NONE);
        }
        due("only those that can be", days.count(1), 3);
    }

    private static void men() {
        test("Terms 1", "MEN, at most 14, numbered from 0 on");
        StonesAlike x = new StonesAlike();
        for (int i = 0; i < 14; i++) {
            due("man " + i, x.man(0, i, 0, 0, 0), i);
        }
        due("a 15th", x.man(0, 14, 0, 0, 0), NONE);
        due("fourteen stay", x.count(0), 14);
        due("the last is the 14th", x.look(13, 1), 13);

        test("Terms 1", "a NUMBER 0 .. 9999");
        for (int number : new int[] {LEAST, -1, 0, 9999, 10000, GREATEST}) {
            due("number " + number, new StonesAlike().man(0, number, 0, 0, 0), number == 0 || number == 9999 ? 0 : NONE);
        }

        test("Terms 1", "(as four digits, 0 in front)");
        for (int number : new int[] {0, 7, 42, 305, 999, 1000, 5999, 9180, 9999}) {
            int[] digits = {number / 1000, number / 100 % 10, number / 10 % 10, number % 10};
            for (int place = 0; place < 4; place++) {
                for (int digit = 0; digit <= 9; digit++) {
                    StonesAlike y = new StonesAlike();
                    y.man(0, number, 0, 0, 0);
                    y.body(0);
                    y.read(0, 0, place, digit);
                    due(number + " and digit " + digit + " in place " + place, y.fits(2, 0, 0), digit == digits[place] ? 1 : 0);
                }
            }
        }

        test("Terms 1", "the DAY on which he was last seen");
        for (int day : new int[] {LEAST, -1, 0, 999, 1000, GREATEST}) {
            due("day " + day, new StonesAlike().man(0, 0, day, 0, 0), day == 0 || day == 999 ? 0 : NONE);
        }

        test("Terms 1", "BOOTS 0 .. 9");
        for (int boots : new int[] {LEAST, -1, 0, 9, 10, GREATEST}) {
            boolean can = boots == 0 || boots == 9;
            StonesAlike y = new StonesAlike();
            due("a man's boots " + boots, y.man(0, 0, 0, boots, 0), can ? 0 : NONE);
            y.body(0);
            due("boots read as " + boots, y.read(0, 2, 0, boots), can ? 1 : NONE);
        }

        test("Terms 1", "TEETH 0 .. 255 (eight bits: which he lacks)");
        for (int teeth : new int[] {LEAST, -1, 0, 255, 256, GREATEST}) {
            due("teeth " + teeth, new StonesAlike().man(0, 0, 0, 0, teeth), teeth == 0 || teeth == 255 ? 0 : NONE);
        }
        for (int bit = 0; bit < 8; bit++) {
            StonesAlike y = new StonesAlike();
            y.man(0, 0, 0, 0, 1 << bit);
            y.man(0, 0, 0, 0, 255 - (1 << bit));
            y.body(0);
            y.read(0, 3, bit, 1);
            due("who lacks tooth " + bit + " alone, lacking", y.fits(2, 0, 0), 1);
            due("who has tooth " + bit + " alone, lacking", y.fits(2, 0, 1), 0);
            y.read(0, 3, bit, 0);
            due("who lacks tooth " + bit + " alone, there", y.fits(3, 0, 0), 0);
            due("who has tooth " + bit + " alone, there", y.fits(3, 0, 1), 1);
        }
    }

    private static void distances() {
        test("Terms 1", "FAR of two CELLS: the greater of the differences of x and y");
        for (int from = 0; from < 25; from++) {
            StonesAlike x = new StonesAlike();
            x.land(5, 5);
            x.stand(0, from, 0, 0);
            x.man(0, 0, 0, 0, 0);
            for (int to = 0; to < 25; to += from % 2 + 1) {
                int dx = Math.abs(from % 5 - to % 5);
                int dy = Math.abs(from / 5 - to / 5);
                due("from " + from + " to " + to, x.near(0, to), dx > dy ? dx : dy);
            }
        }

        test("Terms 1", "the least FAR from it of the CELLS in which his UNIT was on his DAY");
        StonesAlike y = new StonesAlike();
        y.stand(1, 0, 0, 9);
        y.stand(1, 15, 5, 9);
        y.stand(2, 3, 0, 999);
        y.man(1, 0, 5, 0, 0);
        y.man(1, 0, 4, 0, 0);
        due("both cells on day 5", y.near(0, 10), 1);
        due("both cells on day 5", y.near(0, 5), 1);
        due("in the second of them", y.near(0, 15), 0);
        due("the first alone on day 4", y.near(1, 15), 3);
        due("another unit's cell isn't his", y.near(0, 3), 3);

        test("Terms 1", "(none, if it was nowhere)");
        y.man(1, 0, 10, 0, 0);
        y.man(0, 0, 5, 0, 0);
        due("on another day", y.near(2, 0), NONE);
        due("a unit that never was anywhere", y.near(3, 0), NONE);
    }

    private static void notes() {
        test("Terms 1", "NOTES, at most 90, numbered from 0 on");
        StonesAlike x = new StonesAlike();
        x.body(0);
        for (int note = 1; note < 90; note++) {
            int got = note % 3 == 0 ? x.read(0, 1, 0, 0) : note % 3 == 1 ? x.dig(0) : x.strike(0);
            due("note " + note, got, note);
        }
        due("all kinds are counted", x.count(3), 90);
        due("a 91st: a reading", x.read(0, 1, 0, 0), NONE);
        due("a 91st: a dug cell", x.dig(0), NONE);
        due("a 91st: a strike", x.strike(0), NONE);
        due("a 91st: a body", x.body(0), NONE);
        due("ninety stay", x.count(3), 90);
        due("and one body", x.count(2), 1);

        test("Terms 1", "a BODY (found in a CELL), at most 10, numbered for themselves");
        StonesAlike y = new StonesAlike();
        for (int i = 0; i < 10; i++) {
            y.dig(0);
            due("body " + i, y.body(15 - i), i);
        }
        due("an 11th", y.body(0), NONE);
        due("ten stay", y.count(2), 10);
        due("no note comes with an 11th", y.count(3), 20);
        y.strike(1);
        due("a struck one is still one of the ten", y.body(0), NONE);
    }

    private static void reading(int kind, int place, int v, boolean can) {
        StonesAlike x = new StonesAlike();
        x.body(0);
        due("read(0, " + kind + ", " + place + ", " + v + ")", x.read(0, kind, place, v), can ? 1 : NONE);
    }

    private static void readings() {
        int[] wild = {LEAST, -1, 0, 1, 2, 3, 4, 5, 6, 7, 8, 9, 10, 31, 32, GREATEST};

        test("Terms 1", "0 DISC: one of the four places 0 .. 3 and its digit");
        for (int v : wild) {
            reading(0, v, 0, v >= 0 && v <= 3);
            reading(0, 3, v, v >= 0 && v <= 9);
        }

        test("Terms 1", "1 BUTTON: a UNIT");
        for (int v : wild) {
            reading(1, 0, v, v >= 0 && v <= 5);
        }

        test("Terms 1", "2 BOOTS");
        for (int v : wild) {
            reading(2, 0, v, v >= 0 && v <= 9);
        }

        test("Terms 1", "3 TEETH: one of the eight bits, lacking (1) or there (0)");
        for (int v : wild) {
            reading(3, v, 1, v >= 0 && v <= 7);
            reading(3, 7, v, v == 0 || v == 1);
        }

        test("Terms 1", "of a BODY a READING: 0 DISC");
        for (int v : wild) {
            reading(v, 0, 0, v >= 0 && v <= 3);
        }
    }

    private static void known() {
        test("Terms 1", "As KNOWN by n: the first n NOTES");
        StonesAlike x = ruled("may button;");
        x.man(0, 0, 0, 0, 0);
        x.man(1, 0, 0, 0, 0);
        x.body(5);
        x.read(0, 1, 0, 0);
        x.dig(9);
        due("by 0: no body", x.fits(0, 0, 0), NONE);
        due("by 1: nothing read", x.fits(1, 0, 1), 1);
        due("by 2: the button", x.fits(2, 0, 1), 0);
        due("by 2: not dug", x.share(2, 9, 1), 15);
        due("by 3: dug", x.share(3, 9, 0), 0);
        due("by 4: no such n", x.fits(4, 0, 0), NONE);
        due("by all notes and by fewer at any time", x.fits(1, 0, 1), 1);

        test("Terms 1", "without those STRUCK by one of these");
        x.strike(1);
        due("by 4: the button is struck", x.fits(4, 0, 1), 1);
        due("by 3: not yet", x.fits(3, 0, 1), 0);
        x.strike(2);
        due("by 5: not dug", x.share(5, 9, 1), 15);
        due("by 4: still dug", x.share(4, 9, 0), 0);
        x.strike(0);
        due("by 6: no body", x.fits(6, 0, 0), NONE);
        due("by 6: its cell holds none", x.share(6, 5, 0), 1);
        due("by 5: there it is", x.share(5, 5, 0), 0);

        test("Terms 1", "(a STRIKE may be STRUCK: then it doesn't count; asked from the last one on)");
        StonesAlike y = ruled("may button;");
        y.man(0, 0, 0, 0, 0);
        y.body(5);
        y.read(0, 1, 0, 0);
        for (int i = 2; i < 90; i++) {
            y.strike(i - 1);
        }
        for (int n = 2; n <= 90; n++) {
            due("a chain of " + (n - 2) + " strikes", y.fits(n, 0, 0), n % 2 == 0 ? 2 : 1);
        }
        StonesAlike z = ruled("may button;");
        z.man(0, 0, 0, 0, 0);
        z.body(5);
        z.read(0, 1, 0, 0);
        z.strike(1);
        z.strike(1);
        z.strike(2);
        due("struck twice, one of the strikes struck", z.fits(5, 0, 0), 1);
        z.strike(3);
        due("both strikes struck", z.fits(6, 0, 0), 2);
        z.strike(4);
        z.strike(6);
        due("a strike of a strike of a strike", z.fits(8, 0, 0), 2);
        z.strike(7);
        due("and one more: the first strike counts again", z.fits(9, 0, 0), 1);

        test("Terms 1", "READINGS of a BODY that isn't KNOWN don't count");
        StonesAlike w = ruled("sure button;");
        w.man(0, 0, 0, 0, 0);
        w.body(5);
        w.body(6);
        w.read(0, 1, 0, 0);
        w.read(1, 1, 0, 0);
        due("two bodies surely he: neither is named", w.missing(4), 1);
        w.strike(0);
        due("the first one isn't known: the other is named", w.named(5, 1), 0);
        due("one naming", w.namings(5, 1), 1);
        due("nobody is missing", w.missing(5), 0);
        w.read(0, 1, 0, 0);
        due("read, and still not known", w.named(6, 1), 0);
        w.strike(4);
        due("known again, with both readings", w.missing(7), 1);

        test("Terms 1", "of two of a BODY for one thing (a place of the DISC, the BUTTON, the BOOTS, a TOOTH) the later one counts");
        int[][] things = {{0, 0, 9}, {0, 3, 9}, {1, 0, 4}, {2, 0, 9}, {3, 0, 1}, {3, 7, 1}};
        for (int[] t : things) {
            StonesAlike v = new StonesAlike();
            v.man(0, 0, 0, 0, 0);
            v.body(0);
            v.read(0, t[0], t[1], 0);
            v.read(0, t[0], t[1], t[2]);
            due("the later of kind " + t[0] + " is unlike", v.fits(3, 0, 0), 0);
            v.read(0, t[0], t[1], 0);
            due("the later of kind " + t[0] + " is like", v.fits(4, 0, 0), 1);
            v.strike(3);
            due("the last of kind " + t[0] + " is struck: the one before it", v.fits(5, 0, 0), 0);
            v.strike(2);
            due("that is struck, too: the first", v.fits(6, 0, 0), 1);
        }
        StonesAlike u = new StonesAlike();
        u.man(0, 0, 0, 0, 0);
        u.body(0);
        u.body(0);
        u.read(0, 0, 0, 1);
        u.read(0, 0, 1, 0);
        u.read(1, 0, 0, 0);
        due("another place and another body are other things", u.fits(5, 0, 0), 0);
        due("each body its own", u.fits(5, 1, 0), 1);
    }

    // Terms, part 2.

    private static void charterForm() {
        test("Terms 2", "THE CHARTER, a TEXT: { LINE ';' }.");
        goodCharter("", 0);
        goodCharter("wide 9;", 1);
        goodCharter("wide 9;lines 2;", 2);
        badCharter(";", 1, 0);
        badCharter("wide 9;;", 1, 7);
        badCharter("wide 9", 1, 6);
        badCharter("wide 9;lines 2", 1, 14);
        badCharter("wide 9 lines 2;", 1, 7);

        test("Terms 2", "LINE: ( may | sure ) TEST { TEST }");
        for (String head : new String[] {"may ", "sure "}) {
            goodCharter(head + "boots;", 1);
            goodCharter(head + "disc 4 button boots teeth 8 near 7;", 1);
            goodCharter(head + "near 0 teeth 1 boots button disc 1;", 1);
            badCharter(head + ";", 1, head.length());
            badCharter(head + "boots may;", 1, head.length() + 6);
            badCharter(head + "boots wide 9;", 1, head.length() + 6);
            badCharter(head + "boots bar a;", 1, head.length() + 6);
        }
        badCharter("boots;", 1, 0);
        badCharter("disc 1;", 1, 0);

        test("Terms 2", "letters N | lines N | wide N |");
        for (String word : new String[] {"letters", "lines", "wide", "recut"}) {
            int length = word.length();
            goodCharter(word + " 5;", 1);
            badCharter(word + ";", 1, length);
            badCharter(word + " a;", 1, length + 1);
            badCharter(word + " 5 5;", 1, length + 3);
            badCharter(word + " " + word + ";", 1, length + 1);
        }

        test("Terms 2", "bar W { W }");
        goodCharter("bar a;", 1);
        goodCharter("bar a b c d e f g h;", 1);
        badCharter("bar;", 1, 3);
        badCharter("bar a;b;", 1, 6);
        badCharter("bar 1;", 1, 4);
        badCharter("bar a 1;", 1, 6);

        test("Terms 2", "TEST: disc N | button | boots | teeth N | near N.");
        for (String word : new String[] {"disc", "teeth", "near"}) {
            badCharter("may " + word + ";", 1, 4 + word.length());
            badCharter("may " + word + " boots;", 1, 5 + word.length());
            badCharter("may " + word + " 1 1;", 1, 7 + word.length());
        }
        badCharter("may button 1;", 1, 11);
        badCharter("may boots 1;", 1, 10);

        test("Terms 2", "Words: small letters in a row");
        goodCharter("bar a z az;", 1);
        badCharter("May boots;", 1, 0);
        badCharter("mAy boots;", 1, 0);
        badCharter("mayboots;", 1, 0);
        badCharter("may bo ots;", 1, 4);
        badCharter("bar a`;", 1, 5);
        badCharter("bar z{;", 1, 5);
        badCharter("bar a_b;", 1, 5);
        badCharter("bar A;", 1, 4);

        test("Terms 2", "W: one of 1 .. 8 letters");
        goodCharter("bar a abcdefgh;", 1);
        badCharter("bar abcdefghi;", 2, 4);
        badCharter("bar abcdefghabcdefgh;", 2, 4);

        test("Terms 2", "N: digits.");
        goodCharter("wide 0000000000000000009;", 1);
        goodCharter("may near 0;may near 00;", 2);
        goodCharter("wide9;may disc4teeth8;", 2);
        badCharter("wide -9;", 1, 5);
        badCharter("wide +9;", 1, 5);
        badCharter("wide 9.;", 1, 6);
        badCharter("wide /;", 1, 5);
        badCharter("wide 9:;", 1, 6);
        badCharter("recut 1 1;", 1, 8);
        StonesAlike x = ruled("letters 0066;wide 10;");
        due("digits are a number of ten", x.count(7), 66);
        due("digits are a number of ten", x.count(9), 10);

        test("Terms 2", "Blanks 10, 32");
        goodCharter("  \n\n ", 0);
        goodCharter("\n may\nboots \n;\n wide  9\n; ", 2);
        for (int sign = 0; sign < 256; sign++) {
            String text = "may boots;" + (char) sign;
            if (sign == 10 || sign == 32) {
                goodCharter(text, 1);
            } else if (sign < 'a' || sign > 'z') {
                badCharter(text, 1, 10);
            }
        }

        test("Terms 2", "Behind bar each word is a W; else only those of the language stand.");
        goodCharter("bar may sure letters lines wide bar recut disc;", 1);
        goodCharter("bar button boots teeth near;bar x;", 2);
        badCharter("bar x;x;", 1, 6);
        badCharter("may x;", 1, 4);
        badCharter("may boots x;", 1, 10);
        badCharter("wide x;", 1, 5);
        for (String word : new String[] {"may boots", "sure boots", "letters 5", "lines 5", "wide 5", "recut 5", "bar a"}) {
            likeWords("", word);
        }
        for (String test : new String[] {"disc 1", "button", "boots", "teeth 1", "near 1"}) {
            likeWords("may ", test);
            likeWords("sure ", test);
        }
    }

    /** A LINE with one word of the language in which each letter is another one, is left out, or stands twice. */
    private static void likeWords(String front, String rest) {
        goodCharter(front + rest + ";", 1);
        int blank = rest.indexOf(' ');
        int end = blank < 0 ? rest.length() : blank;
        for (int i = 0; i < end; i++) {
            char letter = rest.charAt(i);
            badCharter(front + rest.substring(0, i) + (letter == 'q' ? 'x' : 'q') + rest.substring(i + 1) + ";", 1, front.length());
            badCharter(front + rest.substring(0, i) + rest.substring(i + 1) + ";", 1, front.length());
            badCharter(front + rest.substring(0, i) + letter + rest.substring(i) + ";", 1, front.length());
        }
    }

    /** The word in front of it, the bounds of a number, and those next to them. */
    private static void bounds(String front, int low, int high) {
        goodCharter(front + low + ";", 1);
        goodCharter(front + high + ";", 1);
        goodCharter(front + "000" + high + ";", 1);
        if (low > 0) {
            badCharter(front + (low - 1) + ";", 2, front.length());
            badCharter(front + "0;", 2, front.length());
        }
        badCharter(front + (high + 1) + ";", 2, front.length());
        badCharter(front + high + "0;", 2, front.length());
        badCharter(front + "1000" + high + ";", 2, front.length());
        // Numbers that a wrap-around of 32 or 64 bits would bring back.
        badCharter(front + (4294967296L + high) + ";", 2, front.length());
        badCharter(front + BigInteger.TWO.pow(64).add(BigInteger.valueOf(high)) + ";", 2, front.length());
        badCharter(front + "9".repeat(60) + ";", 2, front.length());
    }

    private static void charterNumbers() {
        test("Terms 2", "disc 1 .. 4");
        bounds("may disc ", 1, 4);
        test("Terms 2", "teeth 1 .. 8");
        bounds("sure teeth ", 1, 8);
        test("Terms 2", "near 0 .. 7");
        bounds("may near ", 0, 7);
        test("Terms 2", "letters 1 .. 66");
        bounds("letters ", 1, 66);
        test("Terms 2", "lines 1 .. 6");
        bounds("lines ", 1, 6);
        test("Terms 2", "wide 5 .. 30");
        bounds("wide ", 5, 30);
        test("Terms 2", "recut 1 .. 99");
        bounds("recut ", 1, 99);
    }

    private static void charterFaults() {
        test("Terms 2", "FAULTS, the first along the text");
        badCharter("wide 99;x;", 2, 5);
        badCharter("x;wide 99;", 1, 0);
        badCharter("wide 9;wide 99;", 3, 7);
        badCharter("wide 99;wide 9;", 2, 5);
        badCharter("may disc 9 disc 1;", 2, 9);
        badCharter("may disc 1 disc 9;", 3, 11);
        badCharter("may disc 9 ?", 2, 9);
        badCharter("bar a a abcdefghi;", 3, 6);
        badCharter("bar abcdefghi a a;", 2, 4);
        badCharter("wide 31", 2, 5);

        test("Terms 2", "(of one place the least)");
        badCharter("bar a b c d e f g h a;", 2, 20);
        badCharter("bar a b c d e f g h;bar h;", 2, 24);
        badCharter("wide 9;may wide 9;", 1, 11);
        badCharter("may boots;".repeat(11) + "may boots may boots;", 1, 120);
        badCharter("may boots;".repeat(12) + "bar a b may;may boots;", 2, 132);
        badCharter("lines 2;bar lines lines;", 3, 18);

        test("Terms 2", "1 a TOKEN that is none (another word, too) or can't stand there");
        badCharter("may boots!;", 1, 9);
        badCharter("may ?boots;", 1, 4);
        badCharter("may,boots;", 1, 3);
        badCharter("maybe boots;", 1, 0);
        badCharter("m boots;", 1, 0);
        badCharter("may boot;", 1, 4);
        badCharter("may bootss;", 1, 4);
        badCharter("may abcdefghi;", 1, 4);
        badCharter("abcdefghi;", 1, 0);
        badCharter("7;", 1, 0);
        badCharter("may 7;", 1, 4);
        badCharter("may disc;", 1, 8);
        badCharter("wide;", 1, 4);
        badCharter("may boots 99;", 1, 10);
        badCharter("wide 9 99;", 1, 7);
        badCharter("bar" + (char) 225 + ";", 1, 3);

        test("Terms 2", "(the length, if more must come)");
        for (String text : new String[] {"may", "may ", "may \n ", "may boots", "may boots ", "may disc", "may disc 1 ", "sure",
                "wide", "wide ", "wide 9", "wide 9  ", "bar", "bar a", "bar a ", "wide 9;bar"}) {
            badCharter(text, 1, text.length());
        }
        StonesAlike x = new StonesAlike();
        feedText(x, "may boots;");
        due("what stands behind the length isn't looked at", x.charter(9), NONE);
        due("more must come", x.fault(0), 1);
        due("at the length", x.fault(1), 9);
        String full = "bar a" + " ".repeat(395);
        badCharter(full, 1, 400);

        test("Terms 2", "2 too much (at it): a number beyond what is said");
        badCharter("may boots   disc  5 ;", 2, 18);
        badCharter("letters\n\n67;", 2, 9);
        badCharter("letters 00067;", 2, 8);
        badCharter("may near8;", 2, 8);

        test("Terms 2", "a 13th LINE of may and sure (at its word)");
        String twelve = "may boots;".repeat(6) + "sure near 1;".repeat(6);
        goodCharter(twelve, 12);
        goodCharter(twelve + "wide 9;bar may sure;recut 3;", 15);
        goodCharter("wide 9;lines 2;" + twelve + "letters 9;", 15);
        badCharter(twelve + "may boots;", 2, twelve.length());
        badCharter(twelve + "  sure boots;", 2, twelve.length() + 2);
        badCharter(twelve + "wide 9;may boots;", 2, twelve.length() + 7);
        badCharter(twelve + "may", 2, twelve.length());
        badCharter(twelve + "may may", 2, twelve.length());
        badCharter(twelve + "mayo", 1, twelve.length());

        test("Terms 2", "a W of more than 8 letters");
        badCharter("bar a bcdefghij;", 2, 6);
        badCharter("bar abcdefgh;bar abcdefghi;", 2, 17);
        badCharter("bar " + "a".repeat(300) + ";", 2, 4);

        test("Terms 2", "a ninth W of all");
        goodCharter("bar a b c d;bar e f g h;", 2);
        badCharter("bar a b c d e f g h i;", 2, 20);
        badCharter("bar a b c d;bar e f g h i;", 2, 24);
        badCharter("bar a;bar b;bar c;bar d;bar e;bar f;bar g;bar h;bar i;", 2, 52);
        badCharter("bar a b c d e f g h abcdefghi;", 2, 20);

        test("Terms 2", "3 told already: a TEST of one kind in its LINE (at its word)");
        for (String test : new String[] {"disc 1", "button", "boots", "teeth 1", "near 1"}) {
            badCharter("may " + test + " " + test + ";", 3, 5 + test.length());
            goodCharter("may " + test + ";may " + test + ";sure " + test + ";", 3);
        }
        badCharter("may disc 1 button boots teeth 1 near 1 disc 4;", 3, 39);
        badCharter("may near 1 boots near;", 3, 17);
        goodCharter("may boots button;", 1);

        test("Terms 2", "letters, lines, wide, recut (at the word)");
        for (String word : new String[] {"letters", "lines", "wide", "recut"}) {
            String line = word + " 5;";
            badCharter(line + line, 3, line.length());
            badCharter(line + "may boots;" + word, 3, line.length() + 10);
            badCharter(line + word + " 999;", 3, line.length());
        }
        goodCharter("letters 5;lines 5;wide 5;recut 5;", 4);
        badCharter("letters 5;lines 5;wide 5;recut 5;letters 5;", 3, 33);
        badCharter("recut 5;wide 5;lines 5;letters 5;recut 5;", 3, 33);
        badCharter("lines 5;wide 5;lines 5;", 3, 15);
        badCharter("wide 5;recut 5;wide 5;", 3, 15);

        test("Terms 2", "a W (at it)");
        badCharter("bar war war;", 3, 8);
        badCharter("bar war;bar god war;", 3, 16);
        badCharter("bar a b c d e f g a;", 3, 18);
        badCharter("bar abcdefgh abcdefgh;", 3, 13);
        goodCharter("bar war wars ware a aa;", 1);
    }

    private static void settings(String text, int proofs, int letters, int lines, int wide, int recut) {
        StonesAlike x = ruled("may boots;sure boots;letters 1;lines 1;wide 5;recut 1;bar a;");
        due("charter '" + text + "'", charter(x, text) >= 0, true);
        due("proofs of '" + text + "'", x.count(6), proofs);
        due("letters of '" + text + "'", x.count(7), letters);
        due("lines of '" + text + "'", x.count(8), lines);
        due("wide of '" + text + "'", x.count(9), wide);
        due("recut of '" + text + "'", x.count(10), recut);
    }

    private static void charterDefaults() {
        test("Terms 2", "Without a LINE: no proofs, letters 66, lines 4, wide 18, no W, recut 10.");
        settings("", 0, 66, 4, 18, 10);
        settings("may boots;", 1, 66, 4, 18, 10);
        settings("letters 65;", 0, 65, 4, 18, 10);
        settings("lines 5;", 0, 66, 5, 18, 10);
        settings("wide 17;", 0, 66, 4, 17, 10);
        settings("recut 11;", 0, 66, 4, 18, 11);
        settings("bar b;", 0, 66, 4, 18, 10);
        StonesAlike x = ruled("may boots;bar war;");
        x.man(0, 0, 0, 0, 0);
        x.body(0);
        x.read(0, 2, 0, 0);
        due("a proof", x.fits(2, 0, 0), 2);
        due("a W", letter(x, "war"), NONE);
        charter(x, "wide 9;");
        due("no proofs", x.fits(2, 0, 0), 1);
        due("no W", letter(x, "war"), 1);
        // One behind the other: nothing of any charter before, good or with a fault, is left in the next.
        String[] row = {"may disc 4 button boots teeth 8 near 0;bar war;", "sure near 0;bar god;x", "sure boots;letters 5;", "", "may boots;bar god;",
                "may disc 3;may disc 4;letters 6;lines 6;wide 6;recut 6;bar a b c d e f g h;?", "may boots;", "wide 9;", "bar war;"};
        int[] proofs = {1, NONE, 1, 0, 1, NONE, 1, 0, 0};
        int[] fits = {1, NONE, 3, 1, 2, NONE, 2, 1, 1};
        int[] letters = {66, NONE, 5, 66, 66, NONE, 66, 66, 66};
        for (int i = 0; i < row.length; i++) {
            boolean good = charter(x, row[i]) >= 0;
            due("charter '" + row[i] + "'", good, proofs[i] != NONE);
            if (good) {
                due("proofs of '" + row[i] + "'", x.count(6), proofs[i]);
                due("what '" + row[i] + "' proves", x.fits(2, 0, 0), fits[i]);
                due("letters of '" + row[i] + "'", x.count(7), letters[i]);
                due("war under '" + row[i] + "'", letter(x, "war"), row[i].contains("war") ? NONE : 1);
                due("god under '" + row[i] + "'", letter(x, "god"), row[i].contains("god") ? NONE : 1);
            }
        }
    }

    /** A man of number 1234, unit 2, boots 5, teeth 10100101, and a body at cell 0. */
    private static StonesAlike oneMan(String rules) {
        StonesAlike x = ruled(rules);
        x.man(2, 1234, 50, 5, 165);
        x.body(0);
        return x;
    }

    private static void proofs() {
        test("Terms 2", "they QUARREL if a READING of it is unlike him (a digit of his NUMBER, his UNIT, his BOOTS, a bit of his TEETH)");
        int[][] right = {{0, 0, 1}, {0, 1, 2}, {0, 2, 3}, {0, 3, 4}, {1, 0, 2}, {2, 0, 5}, {3, 0, 1}, {3, 1, 0}, {3, 2, 1},
                {3, 3, 0}, {3, 4, 0}, {3, 5, 1}, {3, 6, 0}, {3, 7, 1}};
        for (int[] r : right) {
            StonesAlike x = oneMan("");
            due("nothing read: no quarrel", x.fits(1, 0, 0), 1);
            x.read(0, r[0], r[1], r[2]);
            due("kind " + r[0] + " place " + r[1] + " alike", x.fits(2, 0, 0), 1);
            x.read(0, r[0], r[1], r[0] == 3 ? 1 - r[2] : 0);
            due("kind " + r[0] + " place " + r[1] + " unlike", x.fits(3, 0, 0), 0);
        }
        StonesAlike all = oneMan("");
        for (int[] r : right) {
            all.read(0, r[0], r[1], r[2]);
        }
        due("all read, all alike", all.fits(15, 0, 0), 1);
        all.read(0, 3, 7, 0);
        due("one of all unlike", all.fits(16, 0, 0), 0);

        test("Terms 2", "disc N: N places of the DISC at least are read");
        for (int least = 1; least <= 4; least++) {
            StonesAlike x = oneMan("may disc " + least + ";");
            due("disc " + least + ", none read", x.fits(1, 0, 0), 1);
            for (int place = 0; place < 4; place++) {
                x.read(0, 0, place, 1 + place);
                x.read(0, 0, place, 1 + place);
                due("disc " + least + ", read " + (place + 1), x.fits(x.count(3), 0, 0), place + 1 >= least ? 2 : 1);
            }
        }

        test("Terms 2", "button, boots: it is read");
        StonesAlike button = oneMan("may button;");
        button.read(0, 2, 0, 5);
        due("boots are no button", button.fits(2, 0, 0), 1);
        button.read(0, 1, 0, 2);
        due("the button", button.fits(3, 0, 0), 2);
        button.strike(2);
        due("struck: it isn't read", button.fits(4, 0, 0), 1);
        StonesAlike boots = oneMan("may boots;");
        boots.read(0, 1, 0, 2);
        due("a button is no boots", boots.fits(2, 0, 0), 1);
        boots.read(0, 2, 0, 5);
        due("the boots", boots.fits(3, 0, 0), 2);

        test("Terms 2", "teeth N: N TEETH at least are read");
        for (int least = 1; least <= 8; least++) {
            StonesAlike x = oneMan("may teeth " + least + ";");
            due("teeth " + least + ", none read", x.fits(1, 0, 0), 1);
            for (int bit = 0; bit < 8; bit++) {
                x.read(0, 3, 7 - bit, 165 >> (7 - bit) & 1);
                x.read(0, 3, 7 - bit, 165 >> (7 - bit) & 1);
                due("teeth " + least + ", read " + (bit + 1), x.fits(x.count(3), 0, 0), bit + 1 >= least ? 2 : 1);
            }
        }

        test("Terms 2", "near N: NEAR of him to its CELL is N at most");
        for (int reach = 0; reach <= 7; reach++) {
            StonesAlike x = ruled("may near " + reach + ";");
            x.land(5, 5);
            x.stand(0, 0, 50, 50);
            x.man(0, 0, 50, 0, 0);
            x.man(0, 0, 51, 0, 0);
            for (int far = 0; far < 5; far++) {
                x.body(far);
                due("near " + reach + ", far " + far, x.fits(far + 1, far, 0), far <= reach ? 2 : 1);
                due("near " + reach + ", nowhere", x.fits(far + 1, far, 1), 1);
            }
        }

        test("Terms 2", "A LINE holds if all its TESTS do.");
        int[][] five = {{0, 0, 1}, {1, 0, 2}, {2, 0, 5}, {3, 0, 1}};
        for (int left = -1; left < five.length; left++) {
            StonesAlike x = oneMan("may disc 1 button boots teeth 1 near 0;");
            x.stand(2, 0, 50, 50);
            for (int i = 0; i < five.length; i++) {
                if (i != left) {
                    x.read(0, five[i][0], five[i][1], five[i][2]);
                }
            }
            due("without test " + left, x.fits(x.count(3), 0, 0), left < 0 ? 2 : 1);
        }
        StonesAlike far = oneMan("may boots near 0;");
        far.stand(2, 1, 50, 50);
        far.read(0, 2, 0, 5);
        due("too far, boots read", far.fits(2, 0, 0), 1);

        test("Terms 2", "It MAY BE he if they don't QUARREL and a LINE of may or sure holds");
        StonesAlike may = oneMan("may button;sure boots;may disc 4;");
        may.man(2, 1234, 50, 5, 165);
        due("no line holds", may.fits(1, 0, 0), 1);
        may.read(0, 2, 0, 5);
        due("one of sure holds, of two men", may.fits(2, 0, 0), 2);
        may.strike(1);
        may.read(0, 1, 0, 2);
        due("one of may holds", may.fits(4, 0, 1), 2);
        may.read(0, 3, 0, 0);
        due("it holds, but they quarrel", may.fits(5, 0, 1), 0);

        test("Terms 2", "it SURELY is if they don't QUARREL, a LINE of sure holds, and that is so of no other MAN and it");
        StonesAlike sure = ruled("may boots;sure boots button;sure near 0;");
        sure.stand(0, 0, 0, 0);
        sure.man(1, 0, 0, 5, 0);
        sure.man(1, 0, 0, 5, 0);
        sure.man(2, 0, 0, 5, 0);
        sure.body(3);
        sure.read(0, 2, 0, 5);
        due("a line of may alone", sure.fits(2, 0, 2), 2);
        sure.read(0, 1, 0, 1);
        due("so of two men", sure.fits(3, 0, 0), 2);
        due("so of two men", sure.fits(3, 0, 1), 2);
        sure.read(0, 1, 0, 2);
        due("of one man alone", sure.fits(4, 0, 2), 3);
        due("the others quarrel", sure.fits(4, 0, 0), 0);
        sure.body(3);
        sure.read(1, 2, 0, 5);
        sure.read(1, 1, 0, 2);
        due("of another body, too", sure.fits(7, 1, 2), 3);
        due("and still of this one", sure.fits(7, 0, 2), 3);
        StonesAlike one = ruled("may boots;sure near 0;");
        one.stand(0, 0, 0, 0);
        one.man(0, 0, 0, 5, 0);
        one.man(1, 0, 0, 5, 0);
        one.body(0);
        one.read(0, 2, 0, 5);
        due("another whom it may be, by may alone, doesn't count", one.fits(2, 0, 0), 3);
        due("it may be the other", one.fits(2, 0, 1), 2);
        StonesAlike tenth = ruled("sure boots;");
        tenth.man(0, 0, 0, 1, 0);
        tenth.man(0, 0, 0, 2, 0);
        tenth.man(0, 0, 0, 1, 0);
        for (int i = 0; i < 10; i++) {
            tenth.body(0);
            tenth.read(i, 2, 0, 1 + i % 2);
        }
        for (int i = 0; i < 10; i++) {
            due("body " + i + ", the first man", tenth.fits(20, i, 0), i % 2 == 0 ? 2 : 0);
            due("body " + i + ", the second man", tenth.fits(20, i, 1), i % 2 == 0 ? 0 : 3);
            due("body " + i + ", the third man", tenth.fits(20, i, 2), i % 2 == 0 ? 2 : 0);
        }
    }

    // Terms, part 3.

    /** Two men of boots 1, of units 0 and 1; body 0 has these boots, body 1 the button of unit 0. */
    private static StonesAlike twoMen(String rules) {
        StonesAlike x = ruled(rules);
        x.stand(0, 0, 0, 0);
        x.man(0, 0, 0, 1, 0);
        x.man(1, 0, 0, 1, 0);
        x.body(0);
        x.read(0, 2, 0, 1);
        x.body(1);
        x.read(1, 1, 0, 0);
        return x;
    }

    private static void namings() {
        test("Terms 3", "each MAN to one BODY at most");
        StonesAlike x = ruled("may boots;");
        x.man(0, 0, 0, 1, 0);
        for (int i = 0; i < 10; i++) {
            x.body(i);
        }
        for (int i = 0; i < 10; i++) {
            x.read(i, 2, 0, 1);
            due(i + 1 + " bodies, one man: how many have one", x.namings(11 + i, 0), 1);
            due(i + 1 + " bodies, one man: the ways", x.namings(11 + i, 1), i + 1);
        }

        test("Terms 3", "each BODY one that it MAY BE (SURELY is, too) or none");
        StonesAlike none = ruled("may boots;sure button;");
        due("no body: how many have one", none.namings(0, 0), 0);
        due("no body: one way", none.namings(0, 1), 1);
        none.man(0, 0, 0, 1, 0);
        none.man(1, 0, 0, 1, 0);
        none.body(0);
        due("no proof: none", none.namings(1, 0), 0);
        due("no proof: one way", none.namings(1, 1), 1);
        none.read(0, 2, 0, 2);
        due("it quarrels with all: none", none.who(2, 0), 0);
        none.read(0, 2, 0, 1);
        due("one that it may be", none.namings(3, 1), 2);
        none.read(0, 1, 0, 1);
        due("one that it surely is", none.who(4, 0), 2);
        due("in one way", none.namings(4, 1), 1);

        test("Terms 3", "such that a BODY that SURELY is a MAN has him, unless another BODY SURELY is the same one");
        StonesAlike sure = twoMen("may boots;may button;sure boots near 0;");
        due("it surely is the first", sure.fits(4, 0, 0), 3);
        due("it may be the second", sure.fits(4, 0, 1), 2);
        due("the other may be the first", sure.fits(4, 1, 0), 2);
        due("it has him, although two could have one else", sure.namings(4, 0), 1);
        due("in one way", sure.namings(4, 1), 1);
        due("he is left to it alone", sure.who(4, 0), 1);
        due("nobody is left for the other", sure.who(4, 1), 0);
        due("he is named", sure.named(4, 0), 0);
        sure.body(0);
        sure.read(2, 2, 0, 1);
        due("another surely is the same one", sure.fits(6, 2, 0), 3);
        due("two have one then", sure.namings(6, 0), 2);
        due("four ways", sure.namings(6, 1), 4);
        due("either of the two", sure.who(6, 0), 3);
        due("the first", sure.who(6, 1), 1);
        due("either of the two", sure.who(6, 2), 3);
        due("nobody is named", sure.missing(6), 3);
        sure.strike(4);
        due("the other isn't known: as before", sure.namings(7, 1), 1);
        due("he is named", sure.named(7, 0), 0);

        test("Terms 3", "as many BODIES as can be then have one");
        StonesAlike most = twoMen("may boots;may button;");
        due("both have one", most.namings(4, 0), 2);
        due("in one way", most.namings(4, 1), 1);
        due("the first gives way", most.named(4, 0), 1);
        due("to the second", most.named(4, 1), 0);
        StonesAlike full = ruled("may near 7;");
        full.stand(0, 0, 0, 0);
        for (int i = 0; i < 10; i++) {
            full.body(0);
        }
        for (int men = 1; men <= 14; men++) {
            full.man(0, 0, 0, 0, 0);
            int pairs = Math.min(men, 10);
            due(men + " men, ten bodies: how many have one", full.namings(10, 0), pairs);
            due(men + " men, ten bodies: the ways", full.namings(10, 1), falling(Math.max(men, 10), pairs));
        }

        test("Terms 3", "WHO of a BODY: all MEN that it has in some NAMING (bits)");
        due("it may be the first man, too", most.fits(4, 0, 0), 2);
        due("but never is", most.who(4, 0), 2);
        due("all fourteen", full.who(10, 9), (1 << 14) - 1);
        StonesAlike last = ruled("may disc 1;");
        for (int i = 0; i < 14; i++) {
            last.man(0, i == 13 ? 5 : 4, 0, 0, 0);
        }
        last.body(0);
        last.read(0, 0, 3, 5);
        due("the fourteenth alone", last.who(2, 0), 1 << 13);

        test("Terms 3", "NAMED: one that has the same MAN in each NAMING");
        due("the fourteenth", last.named(2, 0), 13);
        last.body(1);
        last.read(1, 0, 3, 5);
        due("one man in some namings, nobody in others: who", last.who(4, 0), 1 << 13);
        due("one man in some namings, nobody in others: not named", last.named(4, 0), NONE);
        due("nor the other", last.named(4, 1), NONE);
        due("two men: not named", full.named(10, 0), NONE);
        chains();
    }

    /** Men in a row: by the first digit 0 and 1, 2 and 3 .. are alike, by the second 1 and 2, 3 and 4 .. */
    private static void manInRow(StonesAlike x, int i) {
        x.man(0, i / 2 * 1000 + (i + 1) / 2 * 100, 0, 0, 0);
    }

    /** A body that may be two neighbours in the row: i and i + 1. */
    private static void bodyInRow(StonesAlike x, int i) {
        x.read(x.body(0), 0, i % 2, (i + 1) / 2);
    }

    private static void chains() {
        test("Terms 3", "as many BODIES as can be then have one. WHO of a BODY: all MEN that it has in some NAMING");
        int[][] orders = {{0, 1, 2, 3, 4, 5, 6, 7, 8, 9}, {9, 8, 7, 6, 5, 4, 3, 2, 1, 0},
                {3, 8, 0, 5, 9, 1, 7, 2, 6, 4}, {5, 0, 7, 9, 2, 4, 1, 8, 3, 6}};
        for (int[] men : orders) {
            for (int[] bodies : orders) {
                oneManTooMany(men, bodies);
                oneBodyTooMany(men, bodies);
            }
        }
        parts(new int[] {0, 1, 2, 3, 4, 5, 6});
        parts(new int[] {6, 5, 4, 3, 2, 1, 0});
        parts(new int[] {2, 5, 0, 3, 1, 6, 4});
    }

    private static int placeOf(int value, int[] order) {
        int place = 0;
        while (place < order.length && order[place] != value) {
            place++;
        }
        return place;
    }

    /** Ten men in a row, and nine bodies between them; men and bodies are told in any order. */
    private static void oneManTooMany(int[] men, int[] bodies) {
        StonesAlike x = ruled("may disc 1;");
        for (int m : men) {
            manInRow(x, m);
        }
        int[] nine = new int[9];
        int many = 0;
        for (int b : bodies) {
            if (b < 9) {
                nine[many++] = b;
                bodyInRow(x, b);
            }
        }
        due("nine bodies, ten men in a row", x.namings(18, 0), 9);
        due("anyone can be left", x.namings(18, 1), 10);
        for (int i = 0; i < 9; i++) {
            due("who is body " + i, x.who(18, i), 1 << placeOf(nine[i], men) | 1 << placeOf(nine[i] + 1, men));
            due("body " + i + " isn't named", x.named(18, i), NONE);
        }
        due("all are missing", x.missing(18), 1023);
        x.body(0);
        for (int one = 0; one < 10; one += 3) {
            x.read(9, 0, 0, one / 2);
            x.read(9, 0, 1, (one + 1) / 2);
            int n = x.count(3);
            due("the tenth is man " + one + " of the row", x.named(n, 9), placeOf(one, men));
            due("and so all are named", x.namings(n, 1), 1);
            due("nobody is missing", x.missing(n), 0);
            for (int i = 0; i < 9; i++) {
                int man = placeOf(nine[i] < one ? nine[i] : nine[i] + 1, men);
                due("body " + i + " if the tenth is man " + one + " of the row", x.named(n, i), man);
                due("who it is", x.who(n, i), 1 << man);
            }
        }
    }

    /** Nine men in a row, and ten bodies between them and at its ends. */
    private static void oneBodyTooMany(int[] men, int[] bodies) {
        StonesAlike x = ruled("may disc 1;");
        int[] nine = new int[9];
        int many = 0;
        for (int m : men) {
            if (m > 0) {
                nine[many++] = m;
                manInRow(x, m);
            }
        }
        for (int b : bodies) {
            bodyInRow(x, b);
        }
        due("ten bodies, nine men in a row", x.namings(20, 0), 9);
        due("any body can be left", x.namings(20, 1), 10);
        for (int i = 0; i < 10; i++) {
            int left = bodies[i] > 0 ? 1 << placeOf(bodies[i], nine) : 0;
            int right = bodies[i] < 9 ? 1 << placeOf(bodies[i] + 1, nine) : 0;
            due("who is body " + i, x.who(20, i), left | right);
            due("body " + i + " isn't named", x.named(20, i), NONE);
        }
        due("all are missing", x.missing(20), 511);
    }

    /** Where some men are left over and some bodies are: neither reaches into the other's part. */
    private static void parts(int[] order) {
        StonesAlike x = ruled("may boots;");
        int[] boots = {1, 1, 1, 2, 3, 3};
        int[] read = {1, 1, 2, 2, 2, 3, 3};
        int[] men = {0, 0, 0, 0};
        for (int i : order) {
            if (i < boots.length) {
                men[boots[i]] |= 1 << x.man(0, 0, 0, boots[i], 0);
            }
        }
        for (int i : order) {
            x.read(x.body(0), 2, 0, read[i]);
        }
        due("two of three, one of one, two of two", x.namings(14, 0), 5);
        due("six by three by two", x.namings(14, 1), 36);
        for (int i = 0; i < order.length; i++) {
            due("who is body " + i, x.who(14, i), men[read[order[i]]]);
            due("body " + i + " isn't named", x.named(14, i), NONE);
        }
        due("all are missing", x.missing(14), 63);
        x.read(placeOf(5, order), 0, 3, 0);
        x.man(0, 1, 0, 3, 0);
        due("one more man of boots 3, unlike one of these bodies", x.who(15, placeOf(5, order)), men[3]);
        due("like the other", x.who(15, placeOf(6, order)), men[3] | 64);
        due("six by three by four", x.namings(15, 1), 72);
    }

    /** In how many ways so many can be taken, one behind the other, of so many. */
    private static long falling(int of, int many) {
        long ways = 1;
        for (int i = 0; i < many; i++) {
            ways *= of - i;
        }
        return ways;
    }

    /** Two men alike in all but one thing. */
    private static StonesAlike twoUnlikeIn(int thing) {
        StonesAlike x = ruled("may near 7;");
        x.stand(0, 0, 0, 0);
        x.stand(1, 0, 0, 0);
        x.man(0, 0, 0, 0, 0);
        int[] digits = {1000, 100, 10, 1};
        x.man(thing == 4 ? 1 : 0, thing < 4 ? digits[thing] : 0, 0, thing == 5 ? 9 : 0, thing > 5 ? 1 << (thing - 6) : 0);
        x.body(0);
        return x;
    }

    private static void readNext() {
        test("Terms 3", "(0 .. 3 places of the DISC, 4 the BUTTON, 5 the BOOTS, 6 .. 13 TEETH)");
        for (int thing = 0; thing < 14; thing++) {
            due("unlike in thing " + thing, twoUnlikeIn(thing).next(1, 0), thing);
        }

        test("Terms 3", "READ NEXT for a BODY that isn't NAMED");
        StonesAlike x = twoUnlikeIn(5);
        x.read(0, 2, 0, 9);
        due("it is named", x.named(2, 0), 1);
        due("so nothing is read next", x.next(2, 0), NONE);
        x.body(0);
        x.read(1, 2, 0, 9);
        due("two bodies, one man: neither is named", x.next(4, 0), 0);

        test("Terms 3", "of the things that aren't read of it");
        StonesAlike y = ruled("may near 7;");
        y.stand(0, 0, 0, 0);
        y.man(0, 0, 0, 0, 0);
        y.man(0, 0, 0, 0, 0);
        y.body(0);
        y.body(0);
        int note = 2;
        for (int thing = 0; thing < 14; thing++) {
            due("the least that isn't read", y.next(note, 0), thing);
            int kind = thing < 4 ? 0 : thing < 6 ? thing - 3 : 3;
            note = 1 + y.read(0, kind, thing < 6 ? thing % 4 : thing - 6, 0);
        }
        due("all is read", y.next(note, 0), NONE);
        due("nothing of the other body", y.next(note, 1), 0);
        y.strike(2 + 4);
        due("the button's reading is struck", y.next(note + 1, 0), 4);

        test("Terms 3", "the one for which the most MEN of WHO that are alike in it are fewest");
        StonesAlike z = ruled("may near 7;");
        z.stand(0, 0, 0, 0);
        int[][] five = {{1000, 1, 1}, {1000, 1, 1}, {1000, 2, 1}, {2000, 2, 0}, {3000, 3, 0}};
        for (int[] m : five) {
            z.man(0, m[0], 0, m[1], m[2]);
        }
        z.body(0);
        due("three alike in a digit, two in boots, three in a tooth", z.next(1, 0), 5);
        z.read(0, 2, 0, 2);
        due("of the two that are left none alike in the first digit", z.next(2, 0), 0);
        StonesAlike who = ruled("may near 0;");
        who.stand(0, 0, 0, 0);
        who.man(0, 11, 0, 1, 0);
        who.man(0, 12, 0, 1, 0);
        for (int i = 0; i < 6; i++) {
            who.man(1, 11, 0, i, 0);
        }
        who.body(0);
        due("only men of who are looked at", who.next(1, 0), 3);
        StonesAlike alike = ruled("may near 7;");
        alike.stand(0, 0, 0, 0);
        for (int i = 0; i < 14; i++) {
            alike.man(0, 0, 0, 0, 0);
        }
        alike.body(0);
        due("all fourteen alike in all: the first thing", alike.next(1, 0), 0);
        alike.read(0, 0, 0, 0);
        due("and then the second", alike.next(2, 0), 1);

        test("Terms 3", "are fewest; of several the least");
        StonesAlike several = ruled("may near 7;");
        several.stand(0, 0, 0, 0);
        several.man(0, 10, 0, 4, 128);
        several.man(0, 21, 0, 5, 0);
        several.body(0);
        due("places 2 and 3, boots and tooth 7", several.next(1, 0), 2);
        several.man(0, 10, 0, 6, 128);
        due("three kinds of boots are better", several.next(1, 0), 5);
        several.man(0, 21, 0, 6, 0);
        due("two alike in boots, in digits and in tooth 7", several.next(1, 0), 2);
    }

    private static void digging() {
        test("Terms 3", "MISSING: MEN that no BODY is NAMED as");
        StonesAlike x = twoMen("may boots;may button;");
        due("by no note all are", x.missing(0), 3);
        due("a body that may be both", x.missing(2), 3);
        due("both are named", x.missing(4), 0);
        due("nobody on the lists: nobody is missing", new StonesAlike().missing(0), 0);

        test("Terms 3", "in one of those CELLS, each alike likely, that aren't DUG, hold no BODY, and to which his NEAR is least of all such");
        StonesAlike y = new StonesAlike();
        y.land(5, 5);
        y.stand(0, 12, 0, 0);
        y.man(0, 0, 0, 0, 0);
        share(y, 0, 12, 1, 1);
        share(y, 0, 11, 0, 1);
        y.dig(12);
        share(y, 1, 12, 0, 1);
        share(y, 1, 6, 1, 8);
        share(y, 1, 18, 1, 8);
        share(y, 1, 0, 0, 1);
        y.body(6);
        share(y, 2, 6, 0, 1);
        share(y, 2, 18, 1, 7);
        y.body(6);
        share(y, 3, 18, 1, 7);
        for (int cell : new int[] {7, 8, 11, 13, 16, 17}) {
            y.dig(cell);
        }
        share(y, 9, 18, 1, 1);
        y.dig(18);
        share(y, 10, 18, 0, 1);
        share(y, 10, 0, 1, 16);
        share(y, 10, 24, 1, 16);
        y.strike(1);
        share(y, 11, 6, 0, 1);
        y.strike(2);
        share(y, 12, 6, 1, 1);
        y.strike(0);
        share(y, 13, 12, 1, 1);
        share(y, 13, 6, 0, 1);

        StonesAlike kinds = ruled("");
        kinds.man(0, 0, 0, 0, 0);
        kinds.body(15);
        kinds.body(14);
        kinds.read(0, 1, 0, 0);
        kinds.read(1, 1, 0, 0);
        for (int cell = 0; cell < 16; cell++) {
            share(kinds, 4, cell, cell < 14 ? 1 : 0, cell < 14 ? 14 : 1);
        }
        kinds.dig(0);
        kinds.dig(1);
        kinds.dig(3);
        for (int cell = 0; cell < 16; cell++) {
            boolean can = cell == 2 || cell > 3 && cell < 14;
            share(kinds, 7, cell, can ? 1 : 0, can ? 11 : 1);
        }
        due("a cell that is dug strikes no note: body 0", kinds.who(7, 0), 0);
        due("a cell that is dug strikes no note: body 1", kinds.who(7, 1), 0);

        test("Terms 3", "(each such one, if his UNIT was nowhere)");
        StonesAlike z = new StonesAlike();
        z.land(5, 5);
        z.stand(0, 12, 1, 1);
        z.man(0, 0, 0, 0, 0);
        share(z, 0, 0, 1, 25);
        share(z, 0, 24, 1, 25);
        z.dig(24);
        z.dig(24);
        share(z, 2, 24, 0, 1);
        share(z, 2, 0, 1, 24);
        z.body(0);
        share(z, 3, 0, 0, 1);
        share(z, 3, 12, 1, 23);

        test("Terms 3", "SHARE of a CELL: the sum over MISSING MEN, as a fraction in least terms");
        StonesAlike w = new StonesAlike();
        w.land(5, 5);
        for (int cell = 0; cell < 11; cell++) {
            w.stand(1, cell, 0, 0);
        }
        for (int cell = 0; cell < 7; cell++) {
            w.stand(0, cell, 0, 0);
        }
        share(w, 0, 0, 0, 1);
        w.man(0, 0, 0, 0, 0);
        share(w, 0, 0, 1, 7);
        w.man(1, 0, 0, 0, 0);
        share(w, 0, 0, 18, 77);
        w.man(2, 0, 0, 0, 0);
        share(w, 0, 0, 527, 1925);
        share(w, 0, 7, 36, 275);
        share(w, 0, 11, 1, 25);
        for (int i = 0; i < 4; i++) {
            w.man(2, 0, 0, 0, 0);
        }
        share(w, 0, 11, 1, 5);
        StonesAlike v = new StonesAlike();
        v.land(2, 2);
        for (int i = 0; i < 14; i++) {
            v.man(0, 0, 0, 0, 0);
        }
        share(v, 0, 3, 7, 2);
        v.dig(0);
        v.dig(1);
        share(v, 2, 3, 7, 1);
        v.dig(2);
        share(v, 3, 3, 14, 1);
        v.dig(3);
        share(v, 4, 3, 0, 1);
        longShare();
    }

    /** A unit that left cell by cell, and a man of it for some days: a lower number greater than any int. */
    private static void longShare() {
        int[] cellsOfDay = {19, 17, 16, 13, 11, 9, 7, 5};
        StonesAlike x = new StonesAlike();
        x.land(5, 5);
        for (int cell = 0; cell < 19; cell++) {
            int last = 0;
            for (int day = 0; day < cellsOfDay.length; day++) {
                last = cellsOfDay[day] > cell ? day : last;
            }
            x.stand(0, cell, 0, last);
        }
        x.dig(23);
        x.dig(24);
        x.man(1, 0, 0, 0, 0);
        long lower = 23;
        long upper = 1;
        for (int day = 0; day < cellsOfDay.length; day++) {
            x.man(0, 0, day, 0, 0);
            upper = upper * cellsOfDay[day] + lower;
            lower *= cellsOfDay[day];
            share(x, 2, 0, upper, lower);
        }
        due("the lower number in the end", lower, 5354228880L);
        share(x, 2, 18, 19 + 23, 19 * 23);
        share(x, 2, 22, 1, 23);
        share(x, 2, 23, 0, 1);
    }

    private static void share(StonesAlike x, int n, int cell, long upper, long lower) {
        due("share(" + n + ", " + cell + ", 0)", x.share(n, cell, 0), upper);
        due("share(" + n + ", " + cell + ", 1)", x.share(n, cell, 1), lower);
    }

    // Terms, part 4.

    private static void letters() {
        test("Terms 4", "a TEXT of letters a .. z, blanks (32), commas and full stops");
        for (int sign = 0; sign < 256; sign++) {
            String text = "a" + (char) sign + "b";
            if (sign >= 'a' && sign <= 'z' || sign == 32 || sign == ',' || sign == '.') {
                goodLetter("", text, 3);
            } else {
                badLetter("", text, 1, 1);
            }
        }

        test("Terms 4", "cut into LINES of wide signs");
        goodLetter("wide 5;", "abcde", 5);
        goodLetter("wide 5;", "abcde fghij", 5, 5);
        goodLetter("wide 5;lines 6;", "abcde fghij klmno pqrst uvwxy z", 5, 5, 5, 5, 5, 1);
        goodLetter("wide 30;", "abcdefghijklmnopqrstuvwxyzabcd", 30);
        goodLetter("wide 30;", "abcdefghijklmnopqrstuvwxyzabcd e", 30, 1);
        goodLetter("", "abcdefghijklmnopqr", 18);

        test("Terms 4", "word by word (what stands between blanks)");
        goodLetter("wide 5;", "a,b.c d", 5, 1);
        goodLetter("wide 5;", ", . ,", 5);
        goodLetter("wide 5;", "... ab", 3, 2);

        test("Terms 4", "as many in a LINE as there is room for with a blank between");
        goodLetter("wide 5;", "ab cd", 5);
        goodLetter("wide 5;", "ab cde", 2, 3);
        goodLetter("wide 5;", "a b c", 5);
        goodLetter("wide 5;", "a b c d", 5, 1);
        goodLetter("wide 5;", "a b cd", 3, 2);
        goodLetter("wide 5;", "abcd e", 4, 1);
        goodLetter("wide 5;", "abc d e", 5, 1);
        goodLetter("wide 6;", "ab cde", 6);

        test("Terms 4", "nothing at all is a LETTER of no LINES");
        goodLetter("", "");
        goodLetter("letters 1;lines 1;wide 5;bar a;", "");
    }

    private static void letterFaults() {
        String tight = "wide 5;lines 2;letters 12;bar war;";

        test("Terms 4", "FAULTS, the first of these that holds, with its place");
        badLetter(tight, "aaaaaaaaaaaaa?", 1, 13);
        badLetter(tight, " a?", 1, 2);
        badLetter(tight, "aaaaaa ?", 1, 7);
        badLetter(tight, "aaaa bbb c?", 1, 10);
        badLetter(tight, "war ?", 1, 4);
        badLetter(tight, " aaaaaaaaaaaa", 2, 12);
        badLetter(tight, "aaaaaaaaaaaaa", 2, 12);
        badLetter(tight, "aaaa bbbb cccc", 2, 12);
        badLetter(tight, "war a b c d e", 2, 12);
        badLetter(tight, "aaaaaa  b", 3, 7);
        badLetter(tight, "aaa bbb ccc ", 3, 11);
        badLetter(tight, "war a ", 3, 5);
        badLetter("wide 5;lines 2;", "aaa bbb ccc dddddd", 4, 12);
        badLetter(tight, "war aaaaaa", 4, 4);
        badLetter(tight, "war aaa bbb", 5, 8);
        badLetter(tight, "war", 6, 0);

        test("Terms 4", "1 another sign (the first)");
        badLetter("", "a?b!", 1, 1);
        badLetter("", "A", 1, 0);
        badLetter("", "aZ", 1, 1);
        badLetter("", "a\nb", 1, 1);
        badLetter("", "a" + (char) 0, 1, 1);
        badLetter("", "a" + (char) 225, 1, 1);
        badLetter("", "a;b", 1, 1);
        badLetter("", "a-b", 1, 1);
        badLetter("", "a".repeat(399) + "?", 1, 399);

        test("Terms 4", "2 more than letters signs (at the first beyond)");
        goodLetter("letters 1;", "a", 1);
        badLetter("letters 1;", "ab", 2, 1);
        goodLetter("letters 12;", "abcde fghijk", 12);
        badLetter("letters 12;", "abcde fghijkl", 2, 12);
        String sixtySix = "abcdefghijklmnopqr abcdefghijklmnopqr abcdefghijklmnopqr abcdefghi";
        goodLetter("", sixtySix, 18, 18, 18, 9);
        badLetter("", sixtySix + "j", 2, 66);
        badLetter("letters 65;", sixtySix, 2, 65);
        badLetter("", "a".repeat(400), 2, 66);

        test("Terms 4", "3 a blank at an end");
        badLetter("", " ", 3, 0);
        badLetter("", " a", 3, 0);
        badLetter("", "a ", 3, 1);
        badLetter("", " a ", 3, 0);
        badLetter("", "ab cd ", 3, 5);

        test("Terms 4", "or two of them (at the first such: of two the second one)");
        badLetter("", "a  b", 3, 2);
        badLetter("", "a   b", 3, 2);
        badLetter("", "a b  c  d", 3, 4);
        badLetter("", "a  b ", 3, 2);
        badLetter("", "  a", 3, 0);
        badLetter("", "a  ", 3, 2);
        badLetter("", "  ", 3, 0);
        badLetter("", " a  b", 3, 0);
        goodLetter("", "a b c d", 7);

        test("Terms 4", "4 a word longer than wide (at its first)");
        goodLetter("wide 5;", "abcde", 5);
        badLetter("wide 5;", "abcdef", 4, 0);
        badLetter("wide 5;", "abcde,", 4, 0);
        badLetter("wide 5;", "a bcdefg", 4, 2);
        badLetter("wide 5;", "abcde fghijk lmnopq", 4, 6);
        goodLetter("wide 30;", "a".repeat(30), 30);
        badLetter("wide 30;", "a".repeat(31), 4, 0);

        test("Terms 4", "5 more LINES than lines (at the first word of the first LINE beyond)");
        goodLetter("wide 5;lines 1;", "ab cd", 5);
        badLetter("wide 5;lines 1;", "abc de", 5, 4);
        badLetter("wide 5;lines 2;", "aaa bbb ccc ddd", 5, 8);
        badLetter("wide 5;lines 2;", "aaa bbb c d eee", 5, 10);
        goodLetter("wide 5;lines 6;", "aaaa bbbb cccc dddd eeee ffff", 4, 4, 4, 4, 4, 4);
        badLetter("wide 5;lines 6;", "aaaa bbbb cccc dddd eeee ffff gggg", 5, 30);
        badLetter("wide 5;", "aaaa bbbb cccc dddd eeee", 5, 20);

        test("Terms 4", "6 a W of bar stands as a word (commas and full stops behind it left out; at its first)");
        String bars = "bar war god abcdefgh a;";
        badLetter(bars, "war", 6, 0);
        badLetter(bars, "the war", 6, 4);
        badLetter(bars, "the war, the god.", 6, 4);
        badLetter(bars, "war.,.", 6, 0);
        badLetter(bars, "the abcdefgh.", 6, 4);
        badLetter(bars, "a", 6, 0);
        badLetter(bars, "b a.", 6, 2);
        for (String text : new String[] {"wars", "awar", "wa r", "wa.r", "war.b", ".war", ",god", "abcdefg", "abcdefghi", "aa", "...", "b,a"}) {
            goodLetter(bars, text, text.length());
        }
        goodLetter("", "war", 3);
        String[] words = new String[56];
        int many = 0;
        for (String first : "a b c m n y z".split(" ")) {
            words[many++] = first;
            for (String second : "a b c m n y z".split(" ")) {
                words[many++] = first + second;
            }
        }
        for (String barred : words) {
            StonesAlike x = ruled("bar " + barred + ";");
            for (String word : words) {
                due("bar " + barred + ", letter " + word, letter(x, word), word.equals(barred) ? NONE : 1);
            }
        }
        StonesAlike y = ruled("bar ab ba abc abcd abcdefgh;");
        for (char word = 'a'; word <= 'z'; word++) {
            due("letter " + word, letter(y, "" + word), 1);
            due("letter abcdefg" + word, letter(y, "abcdefg" + word), word == 'h' ? NONE : 1);
            due("letter " + word + "bcdefgh", letter(y, word + "bcdefgh"), word == 'a' ? NONE : 1);
        }
    }

    private static void wall() {
        test("Terms 4", "when it was cut latest (nobody at first)");
        StonesAlike x = ruled("may button;recut 10;");
        x.man(0, 0, 0, 0, 0);
        x.man(1, 0, 0, 0, 0);
        due("never cut", x.wall(), 0);
        x.weeks(9);
        due("still not", x.wall(), 0);

        test("Terms 4", "MEN who were MISSING, as KNOWN by all NOTES of then and by the CHARTER of then");
        x.weeks(1);
        due("both", x.wall(), 3);
        x.body(0);
        x.read(0, 1, 0, 0);
        due("found since then", x.missing(2), 2);
        due("the wall is of then", x.wall(), 3);
        x.weeks(10);
        due("cut anew", x.wall(), 2);
        x.strike(1);
        due("a note struck since then", x.wall(), 2);
        x.weeks(10);
        due("cut anew by all notes, the strike with them", x.wall(), 3);
        x.strike(2);
        charter(x, "");
        x.man(2, 0, 0, 0, 0);
        due("a charter and a man since then", x.wall(), 3);
        x.weeks(10);
        due("no proofs in the charter of then: all three", x.wall(), 7);
        charter(x, "may button;");
        due("the charter that came later", x.wall(), 7);
        x.weeks(10);
        due("cut by it", x.wall(), 6);

        test("Terms 4", "It is cut anew as WEEKS go by, if one of these WEEKS (that in which they end with them) is recut times a whole number.");
        for (int recut : new int[] {1, 2, 7, 50, 99}) {
            for (int start : new int[] {0, 1, recut - 1, recut, recut + 1, 3 * recut - 1, 3 * recut}) {
                for (int n : new int[] {0, 1, 2, recut - 1, recut, recut + 1, 2 * recut, 999}) {
                    wallAfter(recut, start, n);
                }
            }
        }
        StonesAlike y = ruled("recut 7;");
        y.man(0, 0, 0, 0, 0);
        y.weeks(6);
        charter(y, "recut 5;");
        y.weeks(1);
        due("7 is not 5 times a whole number", y.wall(), 0);
        y.weeks(3);
        due("10 is", y.wall(), 1);
    }

    /** A man who comes in week start is on the wall behind n weeks more if one of these is recut times a whole number. */
    private static void wallAfter(int recut, int start, int n) {
        StonesAlike x = ruled("recut " + recut + ";");
        x.weeks(start);
        x.man(0, 0, 0, 0, 0);
        x.weeks(n);
        boolean cut = false;
        for (int week = start + 1; week <= start + n; week++) {
            cut |= week % recut == 0;
        }
        due("recut " + recut + ", from week " + start + ", weeks(" + n + ")", x.wall(), cut ? 1 : 0);
    }

    // Terms, part 5.

    private static void fields() {
        test("Terms 5", "FIELDS, at most 8, numbered from 0 on");
        StonesAlike x = new StonesAlike();
        for (int i = 0; i < 8; i++) {
            due("field " + i, x.field(1), i);
        }
        due("a ninth", x.field(1), NONE);
        due("eight stay", x.count(4), 8);

        test("Terms 5", "so many STONES (1 .. 999)");
        for (int stones : new int[] {LEAST, -1, 0, 1, 999, 1000, GREATEST}) {
            StonesAlike y = new StonesAlike();
            y.capacity(1);
            boolean can = stones == 1 || stones == 999;
            due("field(" + stones + ")", y.field(stones), can ? 0 : NONE);
            due("when it is done", y.plan(1), can ? stones - 1 : NONE);
        }

        test("Terms 5", "KIN that live up to (and with) a SEASON 0 .. 20");
        for (int stones = 1; stones <= 22; stones++) {
            for (int season : new int[] {0, 1, 10, 19, 20}) {
                StonesAlike y = new StonesAlike();
                y.capacity(1);
                y.field(stones);
                due("kin(0, " + season + ", 5)", y.kin(0, season, 5), true);
                due("done in season " + (stones - 1), y.plan(0), stones - 1 <= season ? 5 : 0);
            }
        }
        for (int season : new int[] {LEAST, -1, 21, GREATEST}) {
            StonesAlike y = new StonesAlike();
            y.field(1);
            due("kin(0, " + season + ", 5)", y.kin(0, season, 5), false);
            due("nobody", y.plan(0), 0);
        }

        test("Terms 5", "of each SEASON how many (0 .. 99)");
        for (int many : new int[] {LEAST, -1, 0, 99, 100, GREATEST}) {
            StonesAlike y = new StonesAlike();
            y.field(1);
            y.kin(0, 3, 50);
            boolean can = many == 0 || many == 99;
            due("kin(0, 3, " + many + ")", y.kin(0, 3, many), can);
            due("so many", y.plan(0), can ? many : 50);
        }
        StonesAlike all = new StonesAlike();
        all.capacity(1);
        all.field(1);
        for (int season = 0; season <= 20; season++) {
            all.kin(0, season, 99);
        }
        due("99 of each season", all.plan(0), 21 * 99);
        all.field(20);
        due("those of the last season alone, for an order told", all.judge(1), 99);

        test("Terms 5", "The yard cuts CAPACITY STONES each SEASON (1 .. 999; 100 at first)");
        StonesAlike pace = new StonesAlike();
        pace.field(100);
        due("a hundred in the first season", pace.plan(1), 0);
        pace.field(1);
        due("one more in the next", pace.plan(1), 1);
        for (int n : new int[] {LEAST, -1, 0, 1000, GREATEST}) {
            due("capacity(" + n + ")", pace.capacity(n), false);
            due("as before", pace.plan(1), 1);
        }
        due("capacity(1)", pace.capacity(1), true);
        due("one each season", pace.plan(1), 100);
        due("capacity(999)", pace.capacity(999), true);
        due("all in the first", pace.plan(1), 0);
        pace.field(898);
        due("999 in the first", pace.plan(1), 0);
        pace.field(1);
        due("one more in the next", pace.plan(1), 1);

        test("Terms 5", "one FIELD behind the other in some order; a FIELD is DONE in the SEASON in which its last stone is cut");
        StonesAlike z = new StonesAlike();
        z.capacity(10);
        z.field(5);
        z.field(5);
        z.field(11);
        for (int field = 0; field < 3; field++) {
            for (int season = 0; season <= 2; season++) {
                z.kin(field, season, field == 0 ? 1 : field == 1 ? 10 : 30);
            }
        }
        due("0 1 2: done in 0, 0, 2", z.judge(1 << 3 | 2 << 6), 3 + 30 + 30);
        due("0 2 1: done in 0, 1, 2", z.judge(2 << 3 | 1 << 6), 3 + 60 + 10);
        due("2 0 1: done in 1, 1, 2", z.judge(2 | 1 << 6), 60 + 2 + 10);
        due("the last one is done in", z.plan(1), 2);
    }

    private static void plans() {
        test("Terms 5", "PLAN: the order for which the sum of KIN who live in the SEASON in which theirs is DONE is greatest");
        StonesAlike x = new StonesAlike();
        x.capacity(10);
        for (int i = 0; i < 8; i++) {
            x.field(10);
            x.kin(i, 7 - i, 10 + i);
        }
        due("all are seen", x.plan(0), 8 * 10 + 28);
        for (int place = 0; place < 8; place++) {
            due("the last field first, in place " + place, x.plan(2 + place), 7 - place);
        }
        StonesAlike y = new StonesAlike();
        y.capacity(10);
        y.field(20);
        y.field(10);
        y.field(10);
        y.kin(0, 1, 50);
        y.kin(1, 0, 30);
        y.kin(2, 1, 30);
        due("two fields of thirty are more than one of fifty", y.plan(0), 60);
        due("in place 0", y.plan(2), 1);
        due("in place 1", y.plan(3), 2);
        due("in place 2", y.plan(4), 0);
        y.kin(0, 1, 61);
        due("one of sixty-one is more", y.plan(0), 61);
        due("in place 0", y.plan(2), 0);
        y.kin(0, 1, 60);
        due("as many: the sum", y.plan(0), 60);

        test("Terms 5", "of several the first by numbers of FIELDS");
        due("as many: field 0 first", y.plan(2), 0);
        due("then field 1", y.plan(3), 1);
        due("then field 2", y.plan(4), 2);
        StonesAlike z = new StonesAlike();
        for (int i = 0; i < 8; i++) {
            z.field(1 + i);
        }
        for (int place = 0; place < 8; place++) {
            due("no kin at all, place " + place, z.plan(2 + place), place);
        }
        z.capacity(1);
        z.kin(3, 3, 1);
        int[] order = {3, 0, 1, 2, 4, 5, 6, 7};
        for (int place = 0; place < 8; place++) {
            due("field 3 must be first, place " + place, z.plan(2 + place), order[place]);
        }
        z.kin(3, 3, 0);
        z.kin(3, 6, 1);
        int[] later = {0, 1, 3, 2, 4, 5, 6, 7};
        for (int place = 0; place < 8; place++) {
            due("field 3 by the seventh stone, place " + place, z.plan(2 + place), later[place]);
        }
    }
}
