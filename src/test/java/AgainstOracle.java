import java.math.BigInteger;
import java.util.ArrayList;
import java.util.Arrays;
import java.util.List;
import java.util.Random;
import java.util.TreeMap;
import java.util.TreeSet;
import java.util.regex.Matcher;
import java.util.regex.Pattern;

/**
 * Random runs of up to 512 calls, each answer compared with a slow model that is written another way: it lists every
 * naming and every order of fields, adds fractions by their own lower numbers, and reads texts by a table of states.
 */
public final class AgainstOracle {
    private static final int NONE = -1;
    private static int wrong = 0;
    private static long asked = 0;

    public static void main(String[] args) {
        int runs = args.length > 0 ? Integer.parseInt(args[0]) : 700;
        for (int seed = 0; seed < runs && wrong < 20; seed++) {
            new Run(seed).go();
            for (int more = 0; more < 8; more++) {
                new Run(1000000 + 8 * seed + more).goNaming();
            }
        }
        System.out.println("AgainstOracle: " + runs + " runs, " + asked + " answers, " + wrong + " wrong");
        if (wrong != 0) {
            System.exit(1);
        }
    }

    /** One of the notes; kind: 'b' body, 'r' reading, 'd' dug, 's' strike. */
    private record Note(char kind, int subject, int thing, int value) { }

    private record Man(int unit, int number, int day, int boots, int teeth) {
        int trait(int thing) {
            if (thing < 4) {
                return String.format("%04d", number).charAt(thing) - '0';
            }
            return thing == 4 ? unit : thing == 5 ? boots : (teeth & (1 << (thing - 6))) != 0 ? 1 : 0;
        }
    }

    private record Stand(int unit, int cell, int from, int to) { }

    /** A charter's LINE of proofs: words of tests and their numbers. */
    private record Proof(boolean sure, TreeMap<String, Integer> tests) { }

    private static final class Rules {
        final List<Proof> proofs = new ArrayList<>();
        final TreeMap<String, Integer> numbers = new TreeMap<>();
        final List<String> barred = new ArrayList<>();

        int number(String word) {
            Integer told = numbers.get(word);
            if (told != null) {
                return told;
            }
            return switch (word) {
                case "letters" -> 66;
                case "lines" -> 4;
                case "wide" -> 18;
                default -> 10;
            };
        }
    }

    /** Reads a charter by a table of states; a fault stops it. */
    private static final class Text {
        private static final Pattern TOKEN = Pattern.compile("[a-z]+|[0-9]+|[^a-z0-9 \\n]", Pattern.DOTALL);
        private static final TreeMap<String, int[]> BOUNDS = new TreeMap<>();

        static {
            BOUNDS.put("disc", new int[] {1, 4});
            BOUNDS.put("teeth", new int[] {1, 8});
            BOUNDS.put("near", new int[] {0, 7});
            BOUNDS.put("letters", new int[] {1, 66});
            BOUNDS.put("lines", new int[] {1, 6});
            BOUNDS.put("wide", new int[] {5, 30});
            BOUNDS.put("recut", new int[] {1, 99});
        }

        final Rules rules = new Rules();
        int fault;
        int place = NONE;
        int lines;
        private String state = "head";
        private String open = "";

        Text(String text) {
            Matcher m = TOKEN.matcher(text);
            while (fault == 0 && m.find()) {
                TreeSet<Integer> faults = new TreeSet<>();
                take(m.group(), faults);
                if (!faults.isEmpty()) {
                    fault = faults.first();
                    place = m.start();
                }
            }
            if (fault == 0 && !state.equals("head")) {
                fault = 1;
                place = text.length();
            }
        }

        private void take(String token, TreeSet<Integer> faults) {
            boolean word = Character.isLowerCase(token.charAt(0)) && token.charAt(0) < 128;
            boolean digits = token.charAt(0) >= '0' && token.charAt(0) <= '9';
            boolean isTest = List.of("disc", "button", "boots", "teeth", "near").contains(token);
            switch (state) {
                case "head" -> head(token, faults);
                case "firstTest", "test" -> {
                    if (isTest) {
                        test(token, faults);
                    } else {
                        end(token, state.equals("test"), faults);
                    }
                }
                case "testNumber", "number" -> {
                    if (digits) {
                        number(token, faults);
                    } else {
                        faults.add(1);
                    }
                }
                case "firstBar", "bar" -> {
                    if (word) {
                        bar(token, faults);
                    } else {
                        end(token, state.equals("bar"), faults);
                    }
                }
                default -> end(token, true, faults);
            }
        }

        private void end(String token, boolean may, TreeSet<Integer> faults) {
            if (!may || !token.equals(";")) {
                faults.add(1);
            } else {
                lines++;
                state = "head";
            }
        }

        private void head(String token, TreeSet<Integer> faults) {
            switch (token) {
                case "may", "sure" -> {
                    if (rules.proofs.size() == 12) {
                        faults.add(2);
                    }
                    rules.proofs.add(new Proof(token.equals("sure"), new TreeMap<>()));
                    state = "firstTest";
                }
                case "letters", "lines", "wide", "recut" -> {
                    if (rules.numbers.containsKey(token)) {
                        faults.add(3);
                    }
                    open = token;
                    state = "number";
                }
                case "bar" -> state = "firstBar";
                default -> faults.add(1);
            }
        }

        private void test(String token, TreeSet<Integer> faults) {
            TreeMap<String, Integer> tests = rules.proofs.get(rules.proofs.size() - 1).tests();
            if (tests.containsKey(token)) {
                faults.add(3);
            }
            tests.put(token, 1);
            open = token;
            state = BOUNDS.containsKey(token) ? "testNumber" : "test";
        }

        private void number(String token, TreeSet<Integer> faults) {
            BigInteger n = new BigInteger(token);
            int[] bounds = BOUNDS.get(open);
            if (n.compareTo(BigInteger.valueOf(bounds[0])) < 0 || n.compareTo(BigInteger.valueOf(bounds[1])) > 0) {
                faults.add(2);
                return;
            }
            if (state.equals("testNumber")) {
                rules.proofs.get(rules.proofs.size() - 1).tests().put(open, n.intValue());
                state = "test";
            } else {
                rules.numbers.put(open, n.intValue());
                state = "semicolon";
            }
        }

        private void bar(String token, TreeSet<Integer> faults) {
            if (token.length() > 8 || rules.barred.size() == 8) {
                faults.add(2);
            }
            if (rules.barred.contains(token)) {
                faults.add(3);
            }
            rules.barred.add(token);
            state = "bar";
        }
    }

    /** The commission as the document tells it. */
    private static final class Oracle {
        int w = 4;
        int h = 4;
        int week;
        int wall;
        int fault;
        int place = NONE;
        String tape = "";
        Rules rules = new Rules();
        List<Integer> cut = new ArrayList<>();
        final List<Stand> stands = new ArrayList<>();
        final List<Man> men = new ArrayList<>();
        final List<Note> notes = new ArrayList<>();
        int bodies;
        final List<Integer> stones = new ArrayList<>();
        final List<int[]> kin = new ArrayList<>();
        int capacity = 100;

        int charter(int n) {
            if (n < 0 || n > tape.length()) {
                return -2;
            }
            Text text = new Text(tape.substring(0, n));
            tape = "";
            fault = text.fault;
            place = text.place;
            if (fault != 0) {
                return NONE;
            }
            rules = text.rules;
            return text.lines;
        }

        int letter(int n) {
            if (n < 0 || n > tape.length()) {
                return -2;
            }
            String text = tape.substring(0, n);
            tape = "";
            List<Integer> lines = new ArrayList<>();
            int[] found = letterFault(text, lines);
            fault = found[0];
            place = found[1];
            if (fault != 0) {
                return NONE;
            }
            cut = lines;
            return lines.size();
        }

        private int[] letterFault(String text, List<Integer> lines) {
            Matcher strange = Pattern.compile("[^a-z ,.]", Pattern.DOTALL).matcher(text);
            if (strange.find()) {
                return new int[] {1, strange.start()};
            }
            if (text.length() > rules.number("letters")) {
                return new int[] {2, rules.number("letters")};
            }
            Matcher blank = Pattern.compile("^ |(?<= ) | $").matcher(text);
            if (blank.find()) {
                return new int[] {3, blank.start()};
            }
            if (text.isEmpty()) {
                return new int[] {0, NONE};
            }
            String[] words = text.split(" ");
            int at = 0;
            for (String word : words) {
                if (word.length() > rules.number("wide")) {
                    return new int[] {4, at};
                }
                at += word.length() + 1;
            }
            at = 0;
            List<String> texts = new ArrayList<>();
            for (String word : words) {
                int last = texts.size() - 1;
                if (last >= 0 && (texts.get(last) + " " + word).length() <= rules.number("wide")) {
                    texts.set(last, texts.get(last) + " " + word);
                } else {
                    texts.add(word);
                    if (texts.size() > rules.number("lines")) {
                        return new int[] {5, at};
                    }
                }
                at += word.length() + 1;
            }
            at = 0;
            for (String word : words) {
                if (rules.barred.contains(word.replaceAll("[,.]+$", ""))) {
                    return new int[] {6, at};
                }
                at += word.length() + 1;
            }
            for (String line : texts) {
                lines.add(line.length());
            }
            return new int[] {0, NONE};
        }

        boolean counts(int n, int note) {
            for (int later = note + 1; later < n; later++) {
                if (notes.get(later).kind() == 's' && notes.get(later).subject() == note && counts(n, later)) {
                    return false;
                }
            }
            return true;
        }

        /** The cell of a known body; NONE if it isn't known. */
        int cellOf(int n, int body) {
            for (int i = 0; i < n; i++) {
                Note note = notes.get(i);
                if (note.kind() == 'b' && note.subject() == body && counts(n, i)) {
                    return note.value();
                }
            }
            return NONE;
        }

        TreeMap<Integer, Integer> readings(int n, int body) {
            TreeMap<Integer, Integer> read = new TreeMap<>();
            for (int i = 0; i < n; i++) {
                Note note = notes.get(i);
                if (note.kind() == 'r' && note.subject() == body && counts(n, i)) {
                    read.put(note.thing(), note.value());
                }
            }
            return read;
        }

        int near(int man, int cell) {
            int least = 99;
            for (Stand s : stands) {
                Man m = men.get(man);
                if (s.unit() == m.unit() && s.from() <= m.day() && m.day() <= s.to()) {
                    int dx = Math.abs(s.cell() % w - cell % w);
                    int dy = Math.abs(s.cell() / w - cell / w);
                    least = Math.min(least, Math.max(dx, dy));
                }
            }
            return least == 99 ? NONE : least;
        }

        boolean quarrel(int n, int body, int man) {
            return readings(n, body).entrySet().stream()
                    .anyMatch(e -> men.get(man).trait(e.getKey()) != e.getValue());
        }

        boolean lineHolds(int n, int body, int man, boolean sureOnly) {
            TreeMap<Integer, Integer> read = readings(n, body);
            for (Proof p : rules.proofs) {
                boolean holds = p.sure() || !sureOnly;
                for (String test : p.tests().keySet()) {
                    int number = p.tests().get(test);
                    holds &= switch (test) {
                        case "disc" -> read.headMap(4).size() >= number;
                        case "button" -> read.containsKey(4);
                        case "boots" -> read.containsKey(5);
                        case "teeth" -> read.tailMap(6).size() >= number;
                        default -> near(man, cellOf(n, body)) != NONE && near(man, cellOf(n, body)) <= number;
                    };
                }
                if (holds) {
                    return true;
                }
            }
            return false;
        }

        int fits(int n, int body, int man) {
            if (quarrel(n, body, man)) {
                return 0;
            }
            if (!lineHolds(n, body, man, false)) {
                return 1;
            }
            if (!lineHolds(n, body, man, true)) {
                return 2;
            }
            for (int other = 0; other < men.size(); other++) {
                if (other != man && !quarrel(n, body, other) && lineHolds(n, body, other, true)) {
                    return 2;
                }
            }
            return 3;
        }
    }

    /** All namings as known by n, one by one. */
    private static final class AllNamings {
        final int[][] fit;
        final int men;
        final int bodies;
        int most = -1;
        long ways;
        final int[] who;
        final boolean[] everNone;
        private final int[] owner;
        private final int[] given;

        AllNamings(Oracle o, int n) {
            men = o.men.size();
            bodies = o.bodies;
            fit = new int[bodies][men];
            who = new int[bodies];
            everNone = new boolean[bodies];
            given = new int[bodies];
            owner = new int[bodies];
            for (int b = 0; b < bodies; b++) {
                for (int m = 0; m < men; m++) {
                    fit[b][m] = o.cellOf(n, b) == NONE ? 0 : o.fits(n, b, m);
                }
            }
            for (int b = 0; b < bodies; b++) {
                owner[b] = NONE;
                for (int m = 0; m < men; m++) {
                    int sure = 0;
                    for (int other = 0; other < bodies; other++) {
                        sure += fit[other][m] == 3 ? 1 : 0;
                    }
                    if (fit[b][m] == 3 && sure == 1) {
                        owner[b] = m;
                    }
                }
            }
            list(0, 0, 0);
        }

        private void list(int body, int used, int placed) {
            if (body == bodies) {
                keep(placed);
                return;
            }
            for (int m = 0; m < men; m++) {
                if (fit[body][m] >= 2 && (used & (1 << m)) == 0 && (owner[body] == NONE || owner[body] == m)) {
                    given[body] = m;
                    list(body + 1, used | (1 << m), placed + 1);
                }
            }
            if (owner[body] == NONE) {
                given[body] = NONE;
                list(body + 1, used, placed);
            }
        }

        private void keep(int placed) {
            if (placed > most) {
                most = placed;
                ways = 0;
                Arrays.fill(who, 0);
                Arrays.fill(everNone, false);
            }
            if (placed == most) {
                ways++;
                for (int b = 0; b < bodies; b++) {
                    if (given[b] == NONE) {
                        everNone[b] = true;
                    } else {
                        who[b] |= 1 << given[b];
                    }
                }
            }
        }

        int named(int body) {
            return !everNone[body] && Integer.bitCount(who[body]) == 1 ? Integer.numberOfTrailingZeros(who[body]) : NONE;
        }

        int missing() {
            int bits = (1 << men) - 1;
            for (int b = 0; b < bodies; b++) {
                if (named(b) != NONE) {
                    bits &= ~(1 << named(b));
                }
            }
            return bits;
        }
    }

    private static final class Run {
        private final int seed;
        private final Random dice;
        private final StonesAlike x = new StonesAlike();
        private final Oracle o = new Oracle();
        private final int menMost;
        private final int bodiesMost;
        private final int variety;
        private int calls;

        Run(int seed) {
            this.seed = seed;
            dice = new Random(seed);
            menMost = 1 + dice.nextInt(seed % 10 == 0 ? 14 : 6);
            bodiesMost = 1 + dice.nextInt(seed % 10 == 1 ? 7 : 5);
            variety = 1 + dice.nextInt(4);
        }

        private void due(String call, long got, long want) {
            asked++;
            calls++;
            if (got != want) {
                wrong++;
                System.out.println("seed " + seed + ", call " + calls + ": " + call + " answered " + got + ", due is " + want);
            }
        }

        private int upTo(int n) {
            return dice.nextInt(n + 1);
        }

        /** Mostly within 0 .. n - 1, at times beyond. */
        private int about(int n) {
            int r = dice.nextInt(25);
            if (r == 0) {
                return -1 - dice.nextInt(3);
            }
            return r == 1 ? n + dice.nextInt(3) : dice.nextInt(Math.max(1, n));
        }

        void go() {
            giveCharter(startCharter());
            settle();
            while (calls < 500 && wrong < 20) {
                step(dice.nextInt(30));
            }
        }

        /** Few readings of a body each, so that who may be whom makes chains and rings of many shapes. */
        void goNaming() {
            giveCharter(new String[] {"may near 7;", "may near 7;sure disc 2;", "may near 1;may disc 2;", "sure boots teeth 1;may disc 1;"}[dice.nextInt(4)]);
            for (int unit = 0; unit < 3; unit++) {
                addStand(unit, upTo(15), 0, 99);
            }
            for (int i = 3 + upTo(4); i > 0; i--) {
                addMan(upTo(2), 1000 * upTo(1) + 100 * upTo(1) + 10 * upTo(2) + upTo(2), 5, upTo(2), dice.nextInt(256));
            }
            for (int i = 2 + upTo(4); i > 0; i--) {
                addBody(upTo(15));
                for (int k = 1 + upTo(2); k > 0; k--) {
                    int kind = upTo(3);
                    addReading(o.bodies - 1, kind, upTo(kind == 0 ? 3 : 7), upTo(kind == 3 ? 1 : dice.nextInt(3)));
                }
            }
            known();
            for (int i = upTo(2); i > 0; i--) {
                strike();
                known();
            }
        }

        /** Men, stands and bodies enough that namings are many from the first on. */
        private void settle() {
            for (int i = 0; i < menMost; i++) {
                stand();
                man();
            }
            for (int i = 0; i < bodiesMost; i++) {
                body();
                read();
                read();
            }
        }

        private void step(int r) {
            switch (r) {
                case 0 -> {
                    giveCharter(randomCharter());
                    if (dice.nextInt(4) != 0) {
                        giveCharter(startCharter());
                    }
                }
                case 1 -> giveLetter();
                case 2, 3 -> stand();
                case 4, 5 -> man();
                case 6, 7 -> body();
                case 8, 9, 10, 11, 12, 13 -> read();
                case 14 -> dig();
                case 15 -> strike();
                case 16 -> weeks();
                case 17 -> fields();
                case 18 -> plan();
                case 19 -> land();
                case 20 -> near();
                case 21, 22 -> fits();
                case 23 -> counts();
                default -> known();
            }
        }

        private void giveText(String text) {
            StringBuilder all = new StringBuilder(text);
            while (all.length() % 20 != 0) {
                all.append((char) (dice.nextInt(256)));
            }
            for (int i = 0; i < all.length(); i += 20) {
                int[] v = new int[5];
                for (int k = 0; k < 20; k++) {
                    v[k / 4] = v[k / 4] << 8 | all.charAt(i + k);
                }
                boolean room = o.tape.length() + 20 <= 400;
                if (room) {
                    o.tape += all.substring(i, i + 20);
                }
                due("feed", x.feed(v[0], v[1], v[2], v[3], v[4]), room ? o.tape.length() : NONE);
            }
        }

        private void faults() {
            due("fault(0)", x.fault(0), o.fault);
            due("fault(1)", x.fault(1), o.place);
            for (int what = 6; what <= 10; what++) {
                due("count(" + what + ")", x.count(what), count(what));
            }
        }

        private void giveCharter(String text) {
            giveText(text);
            int n = dice.nextInt(30) == 0 ? upTo(420) - 10 : text.length();
            due("charter '" + text + "'", x.charter(n), o.charter(n));
            faults();
        }

        private String startCharter() {
            String[] some = {"may button;", "may boots;", "sure button boots;", "may disc 1;", "may disc 2 near 1;", "sure disc 2;",
                "may teeth 1;", "sure teeth 2 button;", "may near 1;", "sure near 0;", "may near 3;", "recut 3;", "wide 8;", "lines 2;",
                "letters 20;", "bar a;", "bar ab ba;", "sure disc 1 boots;", "may near 7;"};
            StringBuilder text = new StringBuilder();
            TreeSet<Integer> taken = new TreeSet<>();
            if (dice.nextInt(3) != 0) {
                text.append(new String[] {"may near 7;", "may boots;may button;may teeth 1;", "may disc 1;may boots;", "sure button boots;may near 2;"}[dice.nextInt(4)]);
            }
            for (int i = upTo(6); i >= 0; i--) {
                int k = dice.nextInt(some.length);
                if (taken.add(k)) {
                    text.append(some[k]);
                }
            }
            return text.toString();
        }

        private String randomCharter() {
            String[] tokens = {"may", "sure", "disc", "button", "boots", "teeth", "near", "letters", "lines", "wide", "recut", "bar",
                "a", "b", "abcdefgh", "abcdefghi", "0", "1", "2", "4", "5", "7", "8", "9", "30", "66", "99", "100", "007", "99999999999", ";", ";", "?", "A"};
            StringBuilder text = new StringBuilder(dice.nextBoolean() ? "" : "may boots;".repeat(upTo(12)));
            for (int i = upTo(12); i > 0; i--) {
                text.append(randomLine(tokens));
                if (dice.nextInt(12) == 0) {
                    text.append(tokens[dice.nextInt(tokens.length)]);
                }
                text.append(dice.nextInt(3) == 0 ? "\n" : "");
            }
            return text.length() > 380 ? text.substring(0, 380) : text.toString();
        }

        private String randomLine(String[] tokens) {
            String[] tests = {"button", "boots", "disc " + (1 + upTo(3)), "teeth " + (1 + upTo(7)), "near " + upTo(7), "disc" + upTo(5), "near 8"};
            StringBuilder line = new StringBuilder();
            switch (dice.nextInt(5)) {
                case 0, 1 -> {
                    line.append(dice.nextBoolean() ? "may" : "sure");
                    for (int i = 1 + upTo(2); i > 0; i--) {
                        line.append(' ').append(tests[dice.nextInt(tests.length)]);
                    }
                }
                case 2 -> {
                    line.append("bar");
                    for (int i = 1 + upTo(3); i > 0; i--) {
                        line.append(' ').append((char) ('a' + upTo(12))).append(dice.nextInt(9) == 0 ? "abcdefgh" : "");
                    }
                }
                default -> line.append(tokens[7 + dice.nextInt(4)]).append(' ').append(upTo(dice.nextInt(3) == 0 ? 110 : 8));
            }
            return line.append(dice.nextInt(15) == 0 ? "" : ";").toString();
        }

        private void giveLetter() {
            StringBuilder text = new StringBuilder();
            int length = upTo(dice.nextInt(4) == 0 ? 75 : 35);
            while (text.length() < length) {
                String signs = dice.nextInt(40) == 0 ? "A\n;" : "aaab ,. b";
                char sign = signs.charAt(dice.nextInt(signs.length()));
                boolean stray = sign == ' ' && (text.length() == 0 || text.charAt(text.length() - 1) == ' ');
                if (!stray || dice.nextInt(25) == 0) {
                    text.append(sign);
                }
            }
            giveText(text.toString());
            int n = dice.nextInt(30) == 0 ? upTo(420) - 10 : text.length();
            due("letter '" + text + "'", x.letter(n), o.letter(n));
            faults();
            for (int k = -1; k < 8; k++) {
                due("line(" + k + ")", x.line(k), k >= 0 && k < o.cut.size() ? o.cut.get(k) : NONE);
            }
        }

        private boolean in(int v, int low, int high) {
            return v >= low && v <= high;
        }

        private void land() {
            if (dice.nextInt(6) != 0) {
                return;
            }
            int w = 1 + upTo(5);
            int h = 1 + upTo(5);
            boolean good = in(w, 2, 5) && in(h, 2, 5);
            if (good) {
                o.w = w;
                o.h = h;
                o.week = 0;
                o.wall = 0;
                o.bodies = 0;
                o.stands.clear();
                o.men.clear();
                o.notes.clear();
            }
            due("land(" + w + ", " + h + ")", x.land(w, h) ? 1 : 0, good ? 1 : 0);
            due("wall()", x.wall(), o.wall);
            settle();
        }

        private void stand() {
            int unit = about(6);
            int cell = about(o.w * o.h);
            int from = about(10);
            int to = from + about(5);
            addStand(unit, cell, from, to);
        }

        private void addStand(int unit, int cell, int from, int to) {
            boolean good = in(unit, 0, 5) && in(cell, 0, o.w * o.h - 1) && from >= 0 && to >= from && o.stands.size() < 20;
            if (good) {
                o.stands.add(new Stand(unit, cell, from, to));
            }
            due("stand", x.stand(unit, cell, from, to), good ? o.stands.size() - 1 : NONE);
        }

        private void man() {
            if (o.men.size() >= menMost) {
                return;
            }
            int unit = dice.nextInt(20) == 0 ? 6 : dice.nextInt(variety);
            int number = dice.nextInt(20) == 0 ? 10000 : 1000 * upTo(variety) + 100 * upTo(variety) + 10 * upTo(variety) + upTo(variety);
            int day = dice.nextInt(20) == 0 ? -1 : upTo(9);
            int boots = dice.nextInt(20) == 0 ? 10 : upTo(variety);
            int teeth = dice.nextInt(20) == 0 ? 256 : dice.nextInt(256) & dice.nextInt(256);
            addMan(unit, number, day, boots, teeth);
        }

        private void addMan(int unit, int number, int day, int boots, int teeth) {
            boolean good = unit < 6 && number < 10000 && day >= 0 && boots < 10 && teeth < 256;
            if (good) {
                o.men.add(new Man(unit, number, day, boots, teeth));
            }
            due("man", x.man(unit, number, day, boots, teeth), good ? o.men.size() - 1 : NONE);
        }

        private void body() {
            if (o.bodies < bodiesMost) {
                addBody(about(o.w * o.h));
            }
        }

        private void addBody(int cell) {
            boolean good = in(cell, 0, o.w * o.h - 1) && o.notes.size() < 90;
            if (good) {
                o.notes.add(new Note('b', o.bodies, 0, cell));
                o.bodies++;
            }
            due("body", x.body(cell), good ? o.bodies - 1 : NONE);
        }

        /** Mostly what a man on the lists would show, so that not all quarrel. */
        private void read() {
            int body = about(o.bodies);
            int kind = about(4);
            int place = kind == 0 ? about(4) : about(8);
            int thing = thingOf(kind, place);
            int v = about(kind == 3 ? 2 : kind == 1 ? 6 : 10);
            if (!o.men.isEmpty() && in(thing, 0, 13) && dice.nextInt(25) != 0) {
                v = o.men.get(Math.floorMod(body / 2 + dice.nextInt(15) / 14, o.men.size())).trait(thing);
            }
            addReading(body, kind, place, v);
        }

        private int thingOf(int kind, int place) {
            return kind == 0 ? place : kind == 1 ? 4 : kind == 2 ? 5 : 6 + place;
        }

        private void addReading(int body, int kind, int place, int v) {
            boolean good = in(body, 0, o.bodies - 1) && in(kind, 0, 3) && v >= 0 && o.notes.size() < 90
                    && v <= new int[] {9, 5, 9, 1}[kind] && (kind != 0 || in(place, 0, 3)) && (kind != 3 || in(place, 0, 7));
            if (good) {
                o.notes.add(new Note('r', body, thingOf(kind, place), v));
            }
            due("read(" + body + ", " + kind + ", " + place + ", " + v + ")", x.read(body, kind, place, v), good ? o.notes.size() - 1 : NONE);
        }

        private void dig() {
            int cell = about(o.w * o.h);
            boolean good = in(cell, 0, o.w * o.h - 1) && o.notes.size() < 90;
            if (good) {
                o.notes.add(new Note('d', cell, 0, 0));
            }
            due("dig", x.dig(cell), good ? o.notes.size() - 1 : NONE);
        }

        private void strike() {
            int note = dice.nextBoolean() ? about(o.notes.size()) : o.notes.size() - 1 - upTo(2);
            boolean good = in(note, 0, o.notes.size() - 1) && o.notes.size() < 90;
            if (good) {
                o.notes.add(new Note('s', note, 0, 0));
            }
            due("strike", x.strike(note), good ? o.notes.size() - 1 : NONE);
        }

        private void weeks() {
            int n = dice.nextInt(8) == 0 ? about(1000) : about(5);
            boolean good = in(n, 0, 999) && o.week + n <= 9999;
            if (good) {
                for (int i = 0; i < n; i++) {
                    o.week++;
                    if (o.week % o.rules.number("recut") == 0) {
                        o.wall = -1;
                    }
                }
                if (o.wall == -1) {
                    o.wall = new AllNamings(o, o.notes.size()).missing();
                }
            }
            due("weeks(" + n + ")", x.weeks(n), good ? o.week : NONE);
            due("wall()", x.wall(), o.wall);
        }

        private void near() {
            int man = about(o.men.size());
            int cell = about(o.w * o.h);
            boolean good = in(man, 0, o.men.size() - 1) && in(cell, 0, o.w * o.h - 1);
            due("near", x.near(man, cell), good ? o.near(man, cell) : NONE);
        }

        private void fits() {
            int n = about(o.notes.size() + 1);
            for (int body = -1; body <= o.bodies; body++) {
                for (int man = -1; man <= o.men.size(); man++) {
                    boolean good = in(n, 0, o.notes.size()) && in(body, 0, o.bodies - 1) && in(man, 0, o.men.size() - 1)
                            && o.cellOf(n, body) != NONE;
                    due("fits(" + n + ", " + body + ", " + man + ")", x.fits(n, body, man), good ? o.fits(n, body, man) : NONE);
                }
            }
            // Many answers of one state count as one call.
            calls -= (o.bodies + 2) * (o.men.size() + 2) - 1;
        }

        private void known() {
            int before = calls;
            int n = dice.nextInt(3) == 0 ? about(o.notes.size() + 1) : o.notes.size();
            boolean good = in(n, 0, o.notes.size());
            AllNamings all = good ? new AllNamings(o, n) : null;
            due("namings(" + n + ", 0)", x.namings(n, 0), good ? all.most : NONE);
            due("namings(" + n + ", 1)", x.namings(n, 1), good ? all.ways : NONE);
            due("namings(" + n + ", 2)", x.namings(n, 2), NONE);
            due("missing(" + n + ")", x.missing(n), good ? all.missing() : NONE);
            for (int body = -1; body <= o.bodies; body++) {
                boolean there = good && in(body, 0, o.bodies - 1) && o.cellOf(n, body) != NONE;
                due("who(" + n + ", " + body + ")", x.who(n, body), there ? all.who[body] : NONE);
                due("named(" + n + ", " + body + ")", x.named(n, body), there ? all.named(body) : NONE);
                due("next(" + n + ", " + body + ")", x.next(n, body), there ? next(all, n, body) : NONE);
            }
            shares(n, good ? all.missing() : 0, good);
            calls = before + 3;
        }

        private int next(AllNamings all, int n, int body) {
            if (all.named(body) != NONE || all.who[body] == 0) {
                return NONE;
            }
            int best = NONE;
            int fewest = 99;
            for (int thing = 0; thing < 14; thing++) {
                int most = 0;
                for (int value = 0; value < 10; value++) {
                    int alike = 0;
                    for (int m = 0; m < o.men.size(); m++) {
                        alike += (all.who[body] & (1 << m)) != 0 && o.men.get(m).trait(thing) == value ? 1 : 0;
                    }
                    most = Math.max(most, alike);
                }
                if (!o.readings(n, body).containsKey(thing) && most < fewest) {
                    fewest = most;
                    best = thing;
                }
            }
            return best;
        }

        private void shares(int n, int missing, boolean good) {
            int cells = o.w * o.h;
            BigInteger[] upper = new BigInteger[cells];
            BigInteger[] lower = new BigInteger[cells];
            Arrays.fill(upper, BigInteger.ZERO);
            Arrays.fill(lower, BigInteger.ONE);
            for (int m = 0; good && m < o.men.size(); m++) {
                List<Integer> where = (missing & (1 << m)) != 0 ? digFor(n, m) : List.of();
                for (int cell : where) {
                    BigInteger many = BigInteger.valueOf(where.size());
                    upper[cell] = upper[cell].multiply(many).add(lower[cell]);
                    lower[cell] = lower[cell].multiply(many);
                    BigInteger common = upper[cell].gcd(lower[cell]);
                    upper[cell] = upper[cell].divide(common);
                    lower[cell] = lower[cell].divide(common);
                }
            }
            int likely = NONE;
            for (int cell = 0; cell < cells; cell++) {
                due("share(" + n + ", " + cell + ", 0)", x.share(n, cell, 0), good ? upper[cell].longValueExact() : NONE);
                due("share(" + n + ", " + cell + ", 1)", x.share(n, cell, 1), good ? lower[cell].longValueExact() : NONE);
                boolean more = likely == NONE ? upper[cell].signum() > 0
                        : upper[cell].multiply(lower[likely]).compareTo(upper[likely].multiply(lower[cell])) > 0;
                if (more) {
                    likely = cell;
                }
            }
            due("likely(" + n + ")", x.likely(n), good ? likely : NONE);
        }

        private List<Integer> digFor(int n, int man) {
            TreeMap<Integer, List<Integer>> byNear = new TreeMap<>();
            for (int cell = 0; cell < o.w * o.h; cell++) {
                boolean open = true;
                for (int i = 0; i < n; i++) {
                    Note note = o.notes.get(i);
                    boolean here = note.kind() == 'd' && note.subject() == cell || note.kind() == 'b' && note.value() == cell;
                    open &= !here || !o.counts(n, i);
                }
                if (open) {
                    byNear.computeIfAbsent(o.near(man, cell), k -> new ArrayList<>()).add(cell);
                }
            }
            return byNear.isEmpty() ? List.of() : byNear.firstEntry().getValue();
        }

        private void fields() {
            int stones = dice.nextInt(12) == 0 ? 990 + upTo(20) : upTo(40);
            if (dice.nextInt(3) == 0) {
                boolean good = in(stones, 1, 999) && o.stones.size() < 8;
                if (good) {
                    o.stones.add(stones);
                    o.kin.add(new int[21]);
                }
                due("field", x.field(stones), good ? o.stones.size() - 1 : NONE);
            }
            for (int i = 0; i < 4; i++) {
                int field = about(o.stones.size());
                int season = dice.nextInt(3) == 0 ? about(21) : about(6);
                int many = dice.nextInt(5) == 0 ? about(100) : about(4);
                boolean good = in(field, 0, o.stones.size() - 1) && in(season, 0, 20) && in(many, 0, 99);
                if (good) {
                    o.kin.get(field)[season] = many;
                }
                due("kin", x.kin(field, season, many) ? 1 : 0, good ? 1 : 0);
            }
            int n = dice.nextInt(4) == 0 ? about(1000) : 5 + upTo(40);
            boolean good = in(n, 1, 999);
            if (good) {
                o.capacity = n;
            }
            due("capacity", x.capacity(n) ? 1 : 0, good ? 1 : 0);
        }

        private int sum(int[] order) {
            int sum = 0;
            int cut = 0;
            for (int field : order) {
                cut += o.stones.get(field);
                int done = (cut + o.capacity - 1) / o.capacity - 1;
                for (int season = 0; season <= 20; season++) {
                    sum += season >= done ? o.kin.get(field)[season] : 0;
                }
            }
            return sum;
        }

        private int[] best;
        private int bestSum;

        private void permute(int[] order, int place) {
            if (place == order.length) {
                int sum = sum(order);
                if (sum > bestSum) {
                    bestSum = sum;
                    best = order.clone();
                }
                return;
            }
            for (int field = 0; field < order.length; field++) {
                boolean free = true;
                for (int i = 0; i < place; i++) {
                    free &= order[i] != field;
                }
                if (free) {
                    order[place] = field;
                    permute(order, place + 1);
                }
            }
        }

        private void plan() {
            int many = o.stones.size();
            if (many == 8 && dice.nextInt(4) != 0) {
                return;
            }
            bestSum = -1;
            permute(new int[many], 0);
            due("plan(0)", x.plan(0), bestSum);
            int all = o.stones.stream().mapToInt(Integer::intValue).sum();
            due("plan(1)", x.plan(1), many == 0 ? NONE : (all - 1) / o.capacity);
            for (int i = 0; i < 8; i++) {
                due("plan(" + (i + 2) + ")", x.plan(i + 2), i < many ? best[i] : NONE);
            }
            int bits = dice.nextInt();
            List<Integer> left = new ArrayList<>();
            for (int i = 0; i < many; i++) {
                left.add(i);
            }
            int[] order = new int[many];
            for (int i = 0; i < many; i++) {
                order[i] = dice.nextInt(20) == 0 ? upTo(7) : left.get(dice.nextInt(left.size()));
                left.remove(Integer.valueOf(order[i]));
                bits = bits & ~(7 << (3 * i)) | order[i] << (3 * i);
                if (left.isEmpty() && i + 1 < many) {
                    left.add(0);
                }
            }
            boolean good = Arrays.stream(order).distinct().count() == many && Arrays.stream(order).allMatch(f -> f < many);
            due("judge(" + bits + ")", x.judge(bits), good ? sum(order) : NONE);
        }

        private int count(int what) {
            return switch (what) {
                case 0 -> o.men.size();
                case 1 -> o.stands.size();
                case 2 -> o.bodies;
                case 3 -> o.notes.size();
                case 4 -> o.stones.size();
                case 5 -> o.week;
                case 6 -> o.rules.proofs.size();
                case 7 -> o.rules.number("letters");
                case 8 -> o.rules.number("lines");
                case 9 -> o.rules.number("wide");
                case 10 -> o.rules.number("recut");
                default -> NONE;
            };
        }

        private void counts() {
            for (int what = -1; what <= 11; what++) {
                due("count(" + what + ")", x.count(what), count(what));
            }
        }
    }
}
