import java.io.IOException;
import java.nio.file.Files;
import java.nio.file.Path;
import java.util.ArrayList;
import java.util.Arrays;
import java.util.List;
import java.util.NoSuchElementException;
import java.util.TreeMap;
import java.util.function.Consumer;
import java.util.function.ToLongFunction;

/**
 * What tests of single sentences have in common. A test is opened with the part of the document and the words that it
 * is about; these words must stand in that part, so that no test can outlive the sentence that it was written for.
 */
abstract class Cases {
    static final int NONE = StonesAlike.NONE;
    static final int LEAST = Integer.MIN_VALUE;
    static final int GREATEST = Integer.MAX_VALUE;
    /** How thrown() tells what look() threw. */
    static final int NO_MAN = 1;
    static final int NO_WHAT = 2;

    private static final Path DOCUMENT = Path.of("../shared/DOC.md");
    private static final TreeMap<String, String> PARTS = new TreeMap<>();
    private static final TreeMap<String, Integer> TESTS = new TreeMap<>();
    private static String about = "";
    private static int asked = 0;
    private static int askedBefore = 0;
    private static int wrong = 0;

    static void say(String text) {
        wrong++;
        System.out.println(about + ": " + text);
    }

    /** Opens a test of its own: of which part it is, and of which words. */
    static void test(String part, String words) {
        closeTest();
        about = part + " '" + words + "'";
        TESTS.merge(part, 1, Integer::sum);
        if (PARTS.isEmpty()) {
            readDocument();
        }
        String text = PARTS.get(part);
        if (!PARTS.containsKey("") && (text == null || !text.contains(words))) {
            say("the document has no such words there");
        }
    }

    private static void closeTest() {
        if (!about.isEmpty() && asked == askedBefore) {
            say("nothing was asked");
        }
        askedBefore = asked;
    }

    /** Parts: 'Face', 'Terms 1' .. 'Terms 5', 'Promise 1' .. 'Promise 31', each as one line; "" if there is no document. */
    private static void readDocument() {
        try {
            String part = "Intro";
            for (String line : Files.readAllLines(DOCUMENT)) {
                if (line.startsWith("## ")) {
                    part = partOf(line);
                } else if (line.startsWith("==== ")) {
                    part = "Terms " + line.charAt(5);
                }
                if (!line.startsWith("```")) {
                    PARTS.merge(part, line.strip(), (a, b) -> a + " " + b);
                }
            }
        } catch (IOException e) {
            PARTS.put("", "");
        }
    }

    private static String partOf(String heading) {
        if (heading.startsWith("## Promise ")) {
            return heading.substring(3, heading.indexOf(':'));
        }
        return heading.equals("## Terms") ? "Terms 1" : heading.equals("## The public face") ? "Face" : "Intro";
    }

    static void due(String what, long got, long want) {
        asked++;
        if (got != want) {
            say(what + " answered " + got + ", due is " + want);
        }
    }

    static void due(String what, boolean got, boolean want) {
        due(what, got ? 1 : 0, want ? 1 : 0);
    }

    /** Each of these parts must have had a test. */
    static void end(String name, String... parts) {
        closeTest();
        about = name;
        int tests = 0;
        for (String part : parts) {
            if (!TESTS.containsKey(part)) {
                say("no test of " + part);
            }
        }
        for (int many : TESTS.values()) {
            tests += many;
        }
        System.out.println(name + ": " + tests + " tests, " + asked + " answers, " + wrong + " wrong");
        if (wrong != 0) {
            System.exit(1);
        }
    }

    /** Feeds a text, with blanks behind it up to a multiple of twenty. */
    static void feedText(StonesAlike x, String text) {
        for (int from = 0; from < text.length(); from += 20) {
            int[] v = new int[5];
            for (int k = 0; k < 20; k++) {
                v[k / 4] = v[k / 4] << 8 | (from + k < text.length() ? text.charAt(from + k) : ' ');
            }
            x.feed(v[0], v[1], v[2], v[3], v[4]);
        }
    }

    static int charter(StonesAlike x, String text) {
        feedText(x, text);
        return x.charter(text.length());
    }

    static int letter(StonesAlike x, String text) {
        feedText(x, text);
        return x.letter(text.length());
    }

    /** A new object under a charter that must be good. */
    static StonesAlike ruled(String text) {
        StonesAlike x = new StonesAlike();
        if (charter(x, text) < 0) {
            say("the charter '" + text + "' was refused");
        }
        return x;
    }

    static void goodCharter(String text, int lines) {
        StonesAlike x = new StonesAlike();
        due("charter '" + text + "'", charter(x, text), lines);
        due("fault(0) of '" + text + "'", x.fault(0), 0);
        due("fault(1) of '" + text + "'", x.fault(1), NONE);
    }

    static void badCharter(String text, int fault, int place) {
        StonesAlike x = new StonesAlike();
        due("charter '" + text + "'", charter(x, text), NONE);
        due("fault(0) of '" + text + "'", x.fault(0), fault);
        due("fault(1) of '" + text + "'", x.fault(1), place);
    }

    /** A letter under a charter, with the signs of each of its lines. */
    static void goodLetter(String rules, String text, int... signs) {
        StonesAlike x = ruled(rules);
        due("letter '" + text + "'", letter(x, text), signs.length);
        due("fault(0) of '" + text + "'", x.fault(0), 0);
        due("fault(1) of '" + text + "'", x.fault(1), NONE);
        for (int k = 0; k < signs.length; k++) {
            due("line(" + k + ") of '" + text + "'", x.line(k), signs[k]);
        }
        due("line(" + signs.length + ") of '" + text + "'", x.line(signs.length), NONE);
    }

    static void badLetter(String rules, String text, int fault, int place) {
        StonesAlike x = ruled(rules);
        due("letter '" + text + "'", letter(x, text), NONE);
        due("fault(0) of '" + text + "'", x.fault(0), fault);
        due("fault(1) of '" + text + "'", x.fault(1), place);
    }

    /** 0 if look answers. */
    static int thrown(StonesAlike x, int man, int what) {
        try {
            x.look(man, what);
            return 0;
        } catch (IndexOutOfBoundsException e) {
            return e.getClass() == IndexOutOfBoundsException.class ? NO_MAN : -1;
        } catch (NoSuchElementException e) {
            return e.getClass() == NoSuchElementException.class ? NO_WHAT : -1;
        }
    }

    /** A state in which something stands of all that can be told: also a wall, a letter, a fault, a tape, a plan. */
    static void someState(StonesAlike x) {
        charter(x, "may disc 1;sure disc 2 button;may near 1 boots;recut 4;wide 6;lines 3;letters 30;bar war;");
        x.land(5, 3);
        x.stand(0, 6, 10, 20);
        x.stand(1, 8, 0, 999);
        x.man(0, 1234, 15, 3, 9);
        x.man(0, 1256, 15, 4, 6);
        x.man(1, 78, 20, 3, 9);
        x.man(5, 9999, 999, 9, 255);
        x.weeks(5);
        x.body(7);
        x.read(0, 0, 0, 1);
        x.body(8);
        x.read(1, 2, 0, 3);
        x.dig(6);
        x.dig(2);
        x.strike(5);
        x.read(0, 0, 3, 4);
        x.field(150);
        x.field(30);
        x.kin(0, 2, 7);
        x.kin(1, 0, 5);
        x.capacity(60);
        letter(x, "abcd ef ghij.");
        letter(x, "a war");
        feedText(x, "ab cde, fgh ijk. lm");
    }

    /** All that some calls can tell of an object; it is changed by that (the last ones add to it). */
    static long[] told(StonesAlike x) {
        List<Long> all = new ArrayList<>();
        tellState(x, all);
        tellTexts(x, all);
        tellNumbers(x, all);
        return all.stream().mapToLong(v -> v).toArray();
    }

    private static void tellState(StonesAlike x, List<Long> all) {
        for (int what = 0; what <= 10; what++) {
            all.add((long) x.count(what));
        }
        all.add((long) x.wall());
        for (int what = 0; what <= 9; what++) {
            all.add((long) x.plan(what));
        }
        all.add((long) x.judge(1 | 2 << 6 | 3 << 9 | 4 << 12 | 5 << 15 | 6 << 18 | 7 << 21));
        int n = x.count(3);
        for (int man = 0; man < x.count(0); man++) {
            for (int what = 0; what < 5; what++) {
                all.add((long) x.look(man, what));
            }
            all.add((long) x.near(man, 0));
            all.add((long) x.near(man, 3));
        }
        for (int body = 0; body < x.count(2); body++) {
            all.add((long) x.who(n, body));
            all.add((long) x.named(n, body));
            all.add((long) x.next(n, body));
            all.add((long) x.fits(n, body, 0));
            all.add((long) x.fits(n, body, 1));
        }
        all.add(x.namings(n, 0));
        all.add(x.namings(n, 1));
        all.add((long) x.missing(n));
        all.add((long) x.likely(n));
        for (int cell = 0; cell < 25; cell++) {
            all.add(x.share(n, cell, 0));
            all.add(x.share(n, cell, 1));
        }
    }

    /** The tape is told by what a letter of it all is, under the charter of now and under one that lets it stand. */
    private static void tellTexts(StonesAlike x, List<Long> all) {
        for (int what = 0; what <= 1; what++) {
            all.add((long) x.fault(what));
        }
        for (int k = 0; k < 6; k++) {
            all.add((long) x.line(k));
        }
        int size = x.feed(0x61206220, 0x63206420, 0x65206620, 0x67206820, 0x69206a2e);
        all.add((long) size);
        all.add((long) x.letter(Math.max(0, size)));
        all.add((long) x.fault(0));
        all.add((long) x.fault(1));
        for (int k = 0; k < 6; k++) {
            all.add((long) x.line(k));
        }
    }

    private static void tellNumbers(StonesAlike x, List<Long> all) {
        all.add((long) x.stand(0, 0, 0, 0));
        all.add((long) x.man(0, 0, 0, 0, 0));
        all.add((long) x.body(0));
        all.add((long) x.read(0, 0, 0, 0));
        all.add((long) x.dig(0));
        all.add((long) x.strike(0));
        all.add((long) x.field(1));
        all.add((long) x.weeks(1));
        all.add((long) x.wall());
    }

    /** A call on one of two objects alike: its answer, and that the two are still alike behind it. */
    static void refused(String what, Consumer<StonesAlike> before, ToLongFunction<StonesAlike> call, long answer) {
        StonesAlike plain = new StonesAlike();
        StonesAlike other = new StonesAlike();
        before.accept(plain);
        before.accept(other);
        due(what, call.applyAsLong(other), answer);
        due(what + " changes nothing", Arrays.equals(told(plain), told(other)), true);
    }

    static void refused(String what, ToLongFunction<StonesAlike> call, long answer) {
        refused(what, Cases::someState, call, answer);
    }
}
