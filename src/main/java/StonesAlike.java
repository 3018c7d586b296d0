import java.util.NoSuchElementException;

/**
 * A commission that gives each of the fallen a stone of one height: ../shared/DOC.md says what it promises.
 *
 * All rows are made once, with the object, and used again by every call: no call makes an object.
 */
public final class StonesAlike {
    public static final int NONE = -1;

    private static final int REFUSED = -2;
    private static final int MAX_BODIES = 10;
    private static final int MAX_MEN = 14;
    private static final int MAX_NOTES = 90;
    private static final int MAX_CELLS = 25;
    private static final int MAX_PROOFS = 12;
    private static final int MAX_BARS = 8;
    private static final int MAX_TAPE = 400;
    private static final int MAX_WEEK = 9999;

    /** The kinds of a READING, as read() tells them. */
    private static final int DISC = 0;
    private static final int BUTTON = 1;
    private static final int BOOTS = 2;
    private static final int TEETH = 3;
    private static final int KINDS = 4;

    /** The things that can be read: four places of the DISC, the BUTTON, the BOOTS, eight TEETH. */
    private static final int BUTTON_THING = 4;
    private static final int BOOTS_THING = 5;
    private static final int FIRST_TOOTH = 6;
    private static final int THINGS = 14;

    /** What fits() answers. */
    private static final int QUARREL = 0;
    private static final int UNPROVEN = 1;
    private static final int MAY_BE = 2;
    private static final int SURELY = 3;

    /** The charter's numbers, in the order in which count() tells them. */
    private static final int LETTERS = 0;
    private static final int LINES = 1;
    private static final int WIDE = 2;
    private static final int RECUT = 3;
    private static final int SETTINGS = 4;

    private final Tape tape = new Tape();
    private final CharterReader charters = new CharterReader(tape);
    private final LetterCutter letters = new LetterCutter(tape);
    private final Roll roll = new Roll();
    private final Notebook notebook = new Notebook();
    private final Known known = new Known();
    private final Namings names = new Namings();
    private final Spade spade = new Spade();
    private final Yard yard = new Yard();
    private int week;
    private int wallMen;
    private int latestFault;
    private int latestPlace;

    public StonesAlike() {
        latestPlace = NONE;
    }

    public int feed(int a, int b, int c, int d, int e) {
        if (!tape.hasRoom(20)) {
            return NONE;
        }
        tape.append(a);
        tape.append(b);
        tape.append(c);
        tape.append(d);
        tape.append(e);
        return tape.size;
    }

    public int charter(int n) {
        if (!tape.holds(n)) {
            return REFUSED;
        }
        int told = charters.parse(n);
        tape.size = 0;
        latestFault = charters.fault;
        latestPlace = charters.faultPlace;
        return told;
    }

    public int letter(int n) {
        if (!tape.holds(n)) {
            return REFUSED;
        }
        int cut = letters.cut(n, charters.inForce);
        tape.size = 0;
        latestFault = letters.fault;
        latestPlace = letters.faultPlace;
        return cut;
    }

    public int fault(int what) {
        if (what == 0) {
            return latestFault;
        }
        return what == 1 ? latestPlace : NONE;
    }

    public int line(int k) {
        return k >= 0 && k < letters.lineCount ? letters.signs[k] : NONE;
    }

    public boolean land(int w, int h) {
        if (!within(w, 2, 5) || !within(h, 2, 5)) {
            return false;
        }
        roll.clear(w, h);
        notebook.clear();
        week = 0;
        wallMen = 0;
        return true;
    }

    public int stand(int unit, int cell, int from, int to) {
        if (!isUnit(unit) || !roll.hasCell(cell) || !isDay(from) || !isDay(to) || from > to) {
            return NONE;
        }
        return roll.addStand(unit, cell, from, to);
    }

    public int man(int unit, int number, int day, int boots, int teeth) {
        if (!isUnit(unit) || !within(number, 0, 9999) || !isDay(day)
                || !within(boots, 0, 9) || !within(teeth, 0, 255)) {
            return NONE;
        }
        return roll.addMan(unit, number, day, boots, teeth);
    }

    public int body(int cell) {
        return roll.hasCell(cell) ? notebook.addBody(cell) : NONE;
    }

    public int read(int body, int kind, int place, int v) {
        int thing = thingOf(kind, place);
        if (!notebook.hasBody(body) || thing == NONE || !canBeRead(kind, v)) {
            return NONE;
        }
        return notebook.add(Notebook.READING, body, thing, v);
    }

    public int dig(int cell) {
        return roll.hasCell(cell) ? notebook.add(Notebook.DUG, cell, 0, 0) : NONE;
    }

    public int strike(int note) {
        if (note < 0 || note >= notebook.size) {
            return NONE;
        }
        return notebook.add(Notebook.STRIKE, note, 0, 0);
    }

    public int weeks(int n) {
        if (!within(n, 0, 999) || week + n > MAX_WEEK) {
            return NONE;
        }
        int before = week;
        week += n;
        if (recutFallsBetween(before, week)) {
            nameAll(notebook.size);
            wallMen = missingMen();
        }
        return week;
    }

    public int near(int man, int cell) {
        return roll.hasMan(man) && roll.hasCell(cell) ? roll.nearest(man, cell) : NONE;
    }

    public int fits(int n, int body, int man) {
        if (!survey(n) || !known.hasBody(body) || !roll.hasMan(man)) {
            return NONE;
        }
        return names.verdict(body, man);
    }

    public long namings(int n, int what) {
        if (!within(what, 0, 1) || !nameAll(n)) {
            return NONE;
        }
        return what == 0 ? names.placed : names.tally(notebook.bodies, roll.men);
    }

    public int who(int n, int body) {
        return nameAll(n) && known.hasBody(body) ? names.who[body] : NONE;
    }

    public int named(int n, int body) {
        return nameAll(n) && known.hasBody(body) ? names.named[body] : NONE;
    }

    public int next(int n, int body) {
        if (!nameAll(n) || !known.hasBody(body) || names.named[body] != NONE || names.who[body] == 0) {
            return NONE;
        }
        return readNext(body, names.who[body]);
    }

    public int missing(int n) {
        return nameAll(n) ? missingMen() : NONE;
    }

    public long share(int n, int cell, int what) {
        if (!roll.hasCell(cell) || !within(what, 0, 1) || !nameAll(n)) {
            return NONE;
        }
        spade.divide(roll, known, missingMen());
        return what == 0 ? spade.upper(cell) : spade.lower(cell);
    }

    public int likely(int n) {
        if (!nameAll(n)) {
            return NONE;
        }
        spade.divide(roll, known, missingMen());
        return spade.richest(roll.cells);
    }

    public int wall() {
        return wallMen;
    }

    public int field(int stones) {
        return within(stones, 1, 999) ? yard.addField(stones) : NONE;
    }

    public boolean kin(int field, int season, int many) {
        if (!yard.hasField(field) || !within(season, 0, Yard.LAST_SEASON) || !within(many, 0, 99)) {
            return false;
        }
        yard.setKin(field, season, many);
        return true;
    }

    public boolean capacity(int n) {
        if (!within(n, 1, 999)) {
            return false;
        }
        yard.pace = n;
        return true;
    }

    public int plan(int what) {
        if (!within(what, 0, 9)) {
            return REFUSED;
        }
        if (what == 0) {
            return yard.bestSum();
        }
        return what == 1 ? yard.lastSeason() : yard.fieldInPlace(what - 2);
    }

    public int judge(int order) {
        return yard.sumOf(order);
    }

    public int look(int man, int what) throws IndexOutOfBoundsException, NoSuchElementException {
        if (!roll.hasMan(man)) {
            throw new IndexOutOfBoundsException("no such man");
        }
        switch (what) {
            case 0:
                return roll.unit[man];
            case 1:
                return roll.number[man];
            case 2:
                return roll.day[man];
            case 3:
                return roll.boots[man];
            case 4:
                return roll.teeth[man];
            default:
                throw new NoSuchElementException("no such thing of a man");
        }
    }

    public int count(int what) {
        switch (what) {
            case 0:
                return roll.men;
            case 1:
                return roll.stands;
            case 2:
                return notebook.bodies;
            case 3:
                return notebook.size;
            case 4:
                return yard.fields;
            case 5:
                return week;
            case 6:
                return charters.inForce.proofs;
            case 7:
                return charters.inForce.settings[LETTERS];
            case 8:
                return charters.inForce.settings[LINES];
            case 9:
                return charters.inForce.settings[WIDE];
            case 10:
                return charters.inForce.settings[RECUT];
            default:
                return NONE;
        }
    }

    private static boolean within(int v, int low, int high) {
        return v >= low && v <= high;
    }

    private static boolean isUnit(int v) {
        return within(v, 0, 5);
    }

    private static boolean isDay(int v) {
        return within(v, 0, 999);
    }

    private static boolean hasBit(int bits, int k) {
        return ((bits >> k) & 1) == 1;
    }

    /** The number of the thing that a READING tells; NONE if there is no such kind or place. */
    private static int thingOf(int kind, int place) {
        switch (kind) {
            case DISC:
                return within(place, 0, 3) ? place : NONE;
            case BUTTON:
                return BUTTON_THING;
            case BOOTS:
                return BOOTS_THING;
            case TEETH:
                return within(place, 0, 7) ? FIRST_TOOTH + place : NONE;
            default:
                return NONE;
        }
    }

    private static int kindOf(int thing) {
        if (thing < BUTTON_THING) {
            return DISC;
        }
        if (thing == BUTTON_THING) {
            return BUTTON;
        }
        return thing == BOOTS_THING ? BOOTS : TEETH;
    }

    private static boolean canBeRead(int kind, int v) {
        if (kind == BUTTON) {
            return isUnit(v);
        }
        return within(v, 0, kind == TEETH ? 1 : 9);
    }

    /** Weighs every BODY against every MAN as KNOWN by n; false if there are not so many NOTES. */
    private boolean survey(int n) {
        if (n < 0 || n > notebook.size) {
            return false;
        }
        known.gather(notebook, n);
        for (int body = 0; body < notebook.bodies; body++) {
            if (known.hasBody(body)) {
                names.weigh(charters.inForce, roll, known, body);
            }
        }
        return true;
    }

    private boolean nameAll(int n) {
        if (!survey(n)) {
            return false;
        }
        names.settle(known.bodies, roll.men);
        return true;
    }

    private int missingMen() {
        return ((1 << roll.men) - 1) & ~names.menNamed();
    }

    private boolean recutFallsBetween(int before, int after) {
        int recut = charters.inForce.settings[RECUT];
        return recut > 0 && after / recut > before / recut;
    }

    private int readNext(int body, int who) {
        int best = NONE;
        int fewest = MAX_MEN + 1;
        for (int thing = 0; thing < THINGS; thing++) {
            if (known.reading(body, thing) == NONE) {
                int alike = roll.mostAlike(who, thing);
                if (alike < fewest) {
                    fewest = alike;
                    best = thing;
                }
            }
        }
        return best;
    }

    /** The bytes that were fed and not yet taken as a text. */
    private static final class Tape {
        private final byte[] bytes = new byte[MAX_TAPE];
        private int size;

        boolean hasRoom(int more) {
            return size + more <= MAX_TAPE;
        }

        boolean holds(int n) {
            return n >= 0 && n <= size;
        }

        void append(int word) {
            for (int shift = 24; shift >= 0 && size < MAX_TAPE; shift -= 8) {
                bytes[size] = (byte) (word >> shift);
                size++;
            }
        }

        int sign(int place) {
            return place >= 0 && place < MAX_TAPE ? bytes[place] & 255 : 0;
        }

        boolean isSmallLetter(int place) {
            int sign = sign(place);
            return sign >= 'a' && sign <= 'z';
        }

        boolean isDigit(int place) {
            int sign = sign(place);
            return sign >= '0' && sign <= '9';
        }

        boolean spells(int from, int to, String word) {
            if (to - from != word.length()) {
                return false;
            }
            for (int i = 0; i < word.length(); i++) {
                if (sign(from + i) != word.charAt(i)) {
                    return false;
                }
            }
            return true;
        }

        /** Up to eight small letters as one number, five bits each, so that a W is kept and compared whole; 0 for else. */
        long wordCode(int from, int to) {
            if (to - from > 8) {
                return 0;
            }
            long code = 0;
            for (int place = from; place < to; place++) {
                if (!isSmallLetter(place)) {
                    return 0;
                }
                code = (code << 5) + sign(place) - 'a' + 1;
            }
            return code;
        }
    }

    /** The words of the charter's language, with the bounds of the number behind each (none behind it: high 0). */
    private enum Word {
        MAY("may", Word.PROOF, 0, 0, 0),
        SURE("sure", Word.PROOF, 1, 0, 0),
        LETTERS_WORD("letters", Word.SETTING, LETTERS, 1, 66),
        LINES_WORD("lines", Word.SETTING, LINES, 1, 6),
        WIDE_WORD("wide", Word.SETTING, WIDE, 5, 30),
        RECUT_WORD("recut", Word.SETTING, RECUT, 1, 99),
        BAR_WORD("bar", Word.BAR, 0, 0, 0),
        DISC_WORD("disc", Word.TEST, DISC, 1, 4),
        BUTTON_WORD("button", Word.TEST, BUTTON, 0, 0),
        BOOTS_WORD("boots", Word.TEST, BOOTS, 0, 0),
        TEETH_WORD("teeth", Word.TEST, TEETH, 1, 8),
        NEAR_WORD("near", Word.TEST, Word.NEAR_TEST, 0, 7);

        private static final int PROOF = 0;
        private static final int SETTING = 1;
        private static final int BAR = 2;
        private static final int TEST = 3;
        /** The one TEST that is not of a kind of READING. */
        private static final int NEAR_TEST = KINDS;
        private static final Word[] ALL = values();

        private final String text;
        private final int role;
        private final int slot;
        private final int low;
        private final int high;

        Word(String text, int role, int slot, int low, int high) {
            this.text = text;
            this.role = role;
            this.slot = slot;
            this.low = low;
            this.high = high;
        }
    }

    /** What a charter without a FAULT says. */
    private static final class Charter {
        private final int[] settings = new int[SETTINGS];
        private final boolean[] sure = new boolean[MAX_PROOFS];
        private final int[] least = new int[MAX_PROOFS * KINDS];
        private final int[] reach = new int[MAX_PROOFS];
        private final long[] barred = new long[MAX_BARS];
        private int proofs;
        private int bars;

        Charter() {
            clear();
        }

        void clear() {
            settings[LETTERS] = 66;
            settings[LINES] = 4;
            settings[WIDE] = 18;
            settings[RECUT] = 10;
            proofs = 0;
            bars = 0;
        }

        /** Without TESTS as yet: nothing need be read, and NEAR isn't asked. */
        void openProof(boolean isSure) {
            if (proofs >= MAX_PROOFS) {
                return;
            }
            sure[proofs] = isSure;
            reach[proofs] = NONE;
            for (int kind = 0; kind < KINDS; kind++) {
                least[proofs * KINDS + kind] = 0;
            }
            proofs++;
        }

        /** Adds a TEST to the proof that was opened last. */
        void addTest(int test, int number) {
            int proof = proofs - 1;
            if (proof < 0) {
                return;
            }
            if (test == Word.NEAR_TEST) {
                reach[proof] = number;
            } else {
                least[proof * KINDS + test] = number;
            }
        }

        void addBar(long code) {
            if (bars < MAX_BARS) {
                barred[bars] = code;
                bars++;
            }
        }

        boolean bars(long code) {
            for (int i = 0; i < bars; i++) {
                if (barred[i] == code) {
                    return true;
                }
            }
            return false;
        }

        /** What the LINES prove of a BODY and a MAN who don't QUARREL, other MEN not looked at. */
        int proven(Known known, int body, int distance) {
            int best = UNPROVEN;
            for (int proof = 0; proof < proofs; proof++) {
                if (proofHolds(proof, known, body, distance)) {
                    best = Math.max(best, sure[proof] ? SURELY : MAY_BE);
                }
            }
            return best;
        }

        private boolean proofHolds(int proof, Known known, int body, int distance) {
            if (reach[proof] != NONE && (distance == NONE || distance > reach[proof])) {
                return false;
            }
            for (int kind = 0; kind < KINDS; kind++) {
                if (known.many[body * KINDS + kind] < least[proof * KINDS + kind]) {
                    return false;
                }
            }
            return true;
        }
    }

    /** Reads a charter TOKEN by TOKEN up to its first FAULT; one with a FAULT leaves the charter in force as it was. */
    private static final class CharterReader {
        private static final int END = 0;
        private static final int WORD = 1;
        private static final int NUMBER = 2;
        private static final int SEMICOLON = 3;
        private static final int NO_TOKEN = 4;
        private static final int NUMBER_CAP = 1000;
        private static final int TESTS = KINDS + 1;

        private final Tape tape;
        private Charter inForce = new Charter();
        private Charter draft = new Charter();
        private int length;
        private int kind;
        private int from;
        private int to;
        private int settingsTold;
        private int fault;
        private int faultPlace;

        CharterReader(Tape tape) {
            this.tape = tape;
            faultPlace = NONE;
        }

        /** How many LINES the first n bytes are; NONE with a FAULT. */
        int parse(int n) {
            length = n;
            to = 0;
            settingsTold = 0;
            fault = 0;
            faultPlace = NONE;
            draft.clear();
            advance();
            int told = 0;
            while (told <= MAX_TAPE && fault == 0 && kind != END) {
                Word head = languageWord();
                if (head == null || head.role == Word.TEST) {
                    refuse(1);
                } else if (head.role == Word.PROOF) {
                    parseProof(head);
                } else if (head.role == Word.SETTING) {
                    parseSetting(head);
                } else {
                    parseBars();
                }
                if (kind != SEMICOLON) {
                    refuse(1);
                }
                advance();
                told++;
            }
            if (fault == 0) {
                putInForce();
            }
            return fault == 0 ? told : NONE;
        }

        private void putInForce() {
            Charter old = inForce;
            inForce = draft;
            draft = old;
        }

        private void parseProof(Word head) {
            if (draft.proofs == MAX_PROOFS) {
                refuse(2);
                return;
            }
            draft.openProof(head.slot == 1);
            advance();
            int testsTold = parseTest(0);
            for (int more = 0; more < TESTS && fault == 0 && kind == WORD; more++) {
                testsTold = parseTest(testsTold);
            }
        }

        /** Takes one TEST; testsTold has a bit for each that its LINE has already, as the answer has with this one. */
        private int parseTest(int testsTold) {
            Word test = languageWord();
            if (test == null || test.role != Word.TEST) {
                refuse(1);
                return testsTold;
            }
            if (hasBit(testsTold, test.slot)) {
                refuse(3);
                return testsTold;
            }
            advance();
            int number = 1;
            if (test.high > 0) {
                number = numberBehind(test);
                advance();
            }
            draft.addTest(test.slot, number);
            return testsTold | (1 << test.slot);
        }

        private void parseSetting(Word head) {
            if (hasBit(settingsTold, head.slot)) {
                refuse(3);
                return;
            }
            settingsTold |= 1 << head.slot;
            advance();
            draft.settings[head.slot] = numberBehind(head);
            advance();
        }

        private void parseBars() {
            advance();
            parseBar();
            for (int more = 0; more < MAX_BARS && fault == 0 && kind == WORD; more++) {
                parseBar();
            }
        }

        private void parseBar() {
            long code = tape.wordCode(from, to);
            if (kind != WORD) {
                refuse(1);
            } else if (to - from > 8 || draft.bars == MAX_BARS) {
                refuse(2);
            } else if (draft.bars(code)) {
                refuse(3);
            } else {
                draft.addBar(code);
                advance();
            }
        }

        private int numberBehind(Word word) {
            if (kind != NUMBER) {
                refuse(1);
                return 0;
            }
            int value = 0;
            for (int place = from; place < to; place++) {
                value = Math.min(NUMBER_CAP, value * 10 + tape.sign(place) - '0');
            }
            if (!within(value, word.low, word.high)) {
                refuse(2);
            }
            return value;
        }

        /** The language's word that the TOKEN is; null if it is none of them. */
        private Word languageWord() {
            for (int i = 0; kind == WORD && i < Word.ALL.length; i++) {
                if (tape.spells(from, to, Word.ALL[i].text)) {
                    return Word.ALL[i];
                }
            }
            return null;
        }

        /** The first FAULT stays: what stands behind it is not read. */
        private void refuse(int what) {
            if (fault == 0) {
                fault = what;
                faultPlace = from;
            }
        }

        private void advance() {
            from = to;
            while (from < length && (tape.sign(from) == ' ' || tape.sign(from) == '\n')) {
                from++;
            }
            to = from;
            if (from >= length) {
                kind = END;
            } else if (tape.isSmallLetter(from)) {
                kind = WORD;
                while (to < length && tape.isSmallLetter(to)) {
                    to++;
                }
            } else if (tape.isDigit(from)) {
                kind = NUMBER;
                while (to < length && tape.isDigit(to)) {
                    to++;
                }
            } else {
                kind = tape.sign(from) == ';' ? SEMICOLON : NO_TOKEN;
                to = from + 1;
            }
        }
    }

    /** Cuts a LETTER of kin into LINES; one with a FAULT leaves those of the latest without as they were. */
    private static final class LetterCutter {
        private static final int FAULTS = 6;
        private static final int MAX_LINES = 6;

        private final Tape tape;
        private final int[] signs = new int[MAX_LINES];
        private final int[] draft = new int[MAX_LINES];
        private int lineCount;
        private int draftCount;
        private int fault;
        private int faultPlace;

        LetterCutter(Tape tape) {
            this.tape = tape;
            faultPlace = NONE;
        }

        /** How many LINES the first n bytes have; NONE with a FAULT. */
        int cut(int n, Charter charter) {
            for (int what = 1; what <= FAULTS; what++) {
                int place = placeOf(what, n, charter);
                if (place != NONE) {
                    fault = what;
                    faultPlace = place;
                    return NONE;
                }
            }
            fault = 0;
            faultPlace = NONE;
            lineCount = draftCount;
            for (int i = 0; i < lineCount; i++) {
                signs[i] = draft[i];
            }
            return lineCount;
        }

        /** Where a FAULT holds first, those before it not holding; NONE if it doesn't. */
        private int placeOf(int what, int n, Charter charter) {
            switch (what) {
                case 1:
                    return strangeSign(n);
                case 2:
                    return n > charter.settings[LETTERS] ? charter.settings[LETTERS] : NONE;
                case 3:
                    return strayBlank(n);
                case 4:
                    return longWord(n, charter.settings[WIDE]);
                case 5:
                    return lineBeyond(n, charter.settings[WIDE], charter.settings[LINES]);
                default:
                    return barredWord(n, charter);
            }
        }

        private int strangeSign(int n) {
            for (int place = 0; place < n; place++) {
                if (!tape.isSmallLetter(place) && tape.sign(place) != ' ' && !isStop(place)) {
                    return place;
                }
            }
            return NONE;
        }

        private int strayBlank(int n) {
            for (int place = 0; place < n; place++) {
                boolean atEnd = place == 0 || place == n - 1;
                if (tape.sign(place) == ' ' && (atEnd || tape.sign(place - 1) == ' ')) {
                    return place;
                }
            }
            return NONE;
        }

        private int longWord(int n, int wide) {
            for (int from = 0; from < n; from = wordEnd(from, n) + 1) {
                if (wordEnd(from, n) - from > wide) {
                    return from;
                }
            }
            return NONE;
        }

        /** Fills the draft with LINES; the first word for which there is no LINE left. */
        private int lineBeyond(int n, int wide, int most) {
            draftCount = 0;
            int used = 0;
            for (int from = 0; from < n; from = wordEnd(from, n) + 1) {
                int size = wordEnd(from, n) - from;
                if (draftCount > 0 && used + 1 + size <= wide) {
                    used += 1 + size;
                } else if (draftCount == most || draftCount == MAX_LINES) {
                    return from;
                } else {
                    draftCount++;
                    used = size;
                }
                draft[draftCount - 1] = used;
            }
            return NONE;
        }

        private int barredWord(int n, Charter charter) {
            for (int from = 0; from < n; from = wordEnd(from, n) + 1) {
                int to = wordEnd(from, n);
                while (to > from && isStop(to - 1)) {
                    to--;
                }
                if (charter.bars(tape.wordCode(from, to))) {
                    return from;
                }
            }
            return NONE;
        }

        private boolean isStop(int place) {
            return tape.sign(place) == ',' || tape.sign(place) == '.';
        }

        private int wordEnd(int from, int n) {
            int to = from;
            while (to < n && tape.sign(to) != ' ') {
                to++;
            }
            return to;
        }
    }

    /** The CELLS of the land, where UNITS stood, and the MEN on the lists. */
    private static final class Roll {
        private static final int MAX_STANDS = 20;
        private static final int TRAIT_VALUES = 10;

        private final int[] column = new int[MAX_CELLS];
        private final int[] row = new int[MAX_CELLS];
        private final int[] standUnit = new int[MAX_STANDS];
        private final int[] standCell = new int[MAX_STANDS];
        private final int[] standFrom = new int[MAX_STANDS];
        private final int[] standTo = new int[MAX_STANDS];
        private final int[] unit = new int[MAX_MEN];
        private final int[] number = new int[MAX_MEN];
        private final int[] day = new int[MAX_MEN];
        private final int[] boots = new int[MAX_MEN];
        private final int[] teeth = new int[MAX_MEN];
        private final int[] traits = new int[MAX_MEN * THINGS];
        private final int[] alike = new int[TRAIT_VALUES];
        private int cells;
        private int stands;
        private int men;

        Roll() {
            clear(4, 4);
        }

        void clear(int w, int h) {
            cells = 0;
            stands = 0;
            men = 0;
            for (int y = 0; y < h; y++) {
                for (int x = 0; x < w && cells < MAX_CELLS; x++) {
                    column[cells] = x;
                    row[cells] = y;
                    cells++;
                }
            }
        }

        boolean hasCell(int cell) {
            return cell >= 0 && cell < cells;
        }

        boolean hasMan(int man) {
            return man >= 0 && man < men;
        }

        int addStand(int ofUnit, int cell, int from, int to) {
            if (stands == MAX_STANDS) {
                return NONE;
            }
            standUnit[stands] = ofUnit;
            standCell[stands] = cell;
            standFrom[stands] = from;
            standTo[stands] = to;
            stands++;
            return stands - 1;
        }

        int addMan(int ofUnit, int hisNumber, int lastSeen, int hisBoots, int hisTeeth) {
            if (men == MAX_MEN) {
                return NONE;
            }
            unit[men] = ofUnit;
            number[men] = hisNumber;
            day[men] = lastSeen;
            boots[men] = hisBoots;
            teeth[men] = hisTeeth;
            fillTraits(men);
            men++;
            return men - 1;
        }

        /** What a READING of each thing would tell of him. */
        private void fillTraits(int man) {
            int base = man * THINGS;
            traits[base] = number[man] / 1000;
            traits[base + 1] = number[man] / 100 % 10;
            traits[base + 2] = number[man] / 10 % 10;
            traits[base + 3] = number[man] % 10;
            traits[base + BUTTON_THING] = unit[man];
            traits[base + BOOTS_THING] = boots[man];
            for (int tooth = 0; tooth < 8; tooth++) {
                traits[base + FIRST_TOOTH + tooth] = (teeth[man] >> tooth) & 1;
            }
        }

        int trait(int man, int thing) {
            return traits[man * THINGS + thing];
        }

        /** NEAR of a MAN to a CELL; NONE if his UNIT was nowhere on his DAY. */
        int nearest(int man, int cell) {
            int least = NONE;
            for (int i = 0; i < stands; i++) {
                if (standUnit[i] == unit[man] && within(day[man], standFrom[i], standTo[i])) {
                    int distance = far(standCell[i], cell);
                    if (least == NONE || distance < least) {
                        least = distance;
                    }
                }
            }
            return least;
        }

        private int far(int a, int b) {
            return Math.max(Math.abs(column[a] - column[b]), Math.abs(row[a] - row[b]));
        }

        /** How many at the most of these MEN are alike in a thing. */
        int mostAlike(int bits, int thing) {
            for (int value = 0; value < TRAIT_VALUES; value++) {
                alike[value] = 0;
            }
            int most = 0;
            for (int man = 0; man < men; man++) {
                if (hasBit(bits, man)) {
                    int value = trait(man, thing);
                    alike[value]++;
                    most = Math.max(most, alike[value]);
                }
            }
            return most;
        }
    }

    /** The NOTES as they were taken down, STRUCK or not. */
    private static final class Notebook {
        private static final int BODY = 0;
        private static final int READING = 1;
        private static final int DUG = 2;
        private static final int STRIKE = 3;

        private final int[] kind = new int[MAX_NOTES];
        /** The BODY of a BODY or a READING, the CELL that was DUG, or the NOTE that is STRUCK. */
        private final int[] subject = new int[MAX_NOTES];
        private final int[] thing = new int[MAX_NOTES];
        /** What was read, or the CELL of a BODY. */
        private final int[] value = new int[MAX_NOTES];
        private int size;
        private int bodies;

        void clear() {
            size = 0;
            bodies = 0;
        }

        boolean hasBody(int body) {
            return body >= 0 && body < bodies;
        }

        int addBody(int cell) {
            if (bodies == MAX_BODIES || add(BODY, bodies, 0, cell) == NONE) {
                return NONE;
            }
            bodies++;
            return bodies - 1;
        }

        int add(int ofKind, int ofSubject, int ofThing, int ofValue) {
            if (size == MAX_NOTES) {
                return NONE;
            }
            kind[size] = ofKind;
            subject[size] = ofSubject;
            thing[size] = ofThing;
            value[size] = ofValue;
            size++;
            return size - 1;
        }
    }

    /** What the first n NOTES tell, without those that are STRUCK. */
    private static final class Known {
        private final boolean[] struck = new boolean[MAX_NOTES];
        private final int[] readings = new int[MAX_BODIES * THINGS];
        /** How many things of each kind are read of a BODY. */
        private final int[] many = new int[MAX_BODIES * KINDS];
        private final int[] cellOf = new int[MAX_BODIES];
        private int bodies;
        private int dugCells;
        private int bodyCells;

        /** From the last NOTE on, so that a STRIKE is heard before what it strikes, and a later READING before an earlier. */
        void gather(Notebook notes, int n) {
            forget();
            for (int note = n - 1; note >= 0; note--) {
                if (!struck[note]) {
                    take(notes, note);
                }
            }
        }

        private void forget() {
            bodies = 0;
            dugCells = 0;
            bodyCells = 0;
            for (int i = 0; i < struck.length; i++) {
                struck[i] = false;
            }
            for (int i = 0; i < readings.length; i++) {
                readings[i] = NONE;
            }
            for (int i = 0; i < many.length; i++) {
                many[i] = 0;
            }
        }

        private void take(Notebook notes, int note) {
            int subject = notes.subject[note];
            switch (notes.kind[note]) {
                case Notebook.BODY:
                    bodies |= 1 << subject;
                    cellOf[subject] = notes.value[note];
                    bodyCells |= 1 << notes.value[note];
                    break;
                case Notebook.READING:
                    takeReading(subject, notes.thing[note], notes.value[note]);
                    break;
                case Notebook.DUG:
                    dugCells |= 1 << subject;
                    break;
                default:
                    struck[subject] = true;
                    break;
            }
        }

        private void takeReading(int body, int thing, int value) {
            if (readings[body * THINGS + thing] == NONE) {
                readings[body * THINGS + thing] = value;
                many[body * KINDS + kindOf(thing)]++;
            }
        }

        boolean hasBody(int body) {
            return within(body, 0, MAX_BODIES - 1) && hasBit(bodies, body);
        }

        /** What is read of a BODY; NONE if the thing isn't. */
        int reading(int body, int thing) {
            return readings[body * THINGS + thing];
        }

        boolean canBeDug(int cell) {
            return !hasBit(dugCells | bodyCells, cell);
        }

        boolean quarrels(int body, Roll roll, int man) {
            for (int thing = 0; thing < THINGS; thing++) {
                int read = reading(body, thing);
                if (read != NONE && read != roll.trait(man, thing)) {
                    return true;
                }
            }
            return false;
        }
    }

    /** Who each BODY can be: by the charter alone, and once all are named together. */
    private static final class Namings {
        private final int[] verdicts = new int[MAX_BODIES * MAX_MEN];
        /** The MEN whom a BODY can be given (bits), before and after all the others are looked at. */
        private final int[] may = new int[MAX_BODIES];
        private final int[] who = new int[MAX_BODIES];
        private final int[] named = new int[MAX_BODIES];
        /** One NAMING: the MAN of each BODY, the BODY of each MAN. */
        private final int[] manOf = new int[MAX_BODIES];
        private final int[] bodyOf = new int[MAX_MEN];
        /** Those BODIES whose MEN come free, one for the other, if a BODY is to take another MAN (itself with them). */
        private final int[] chain = new int[MAX_BODIES];
        private final long[] ways = new long[1 << MAX_BODIES];
        private int bodies;
        private int tried;
        private int placed;

        int verdict(int body, int man) {
            return verdicts[body * MAX_MEN + man];
        }

        /** What the charter says of a KNOWN BODY and each MAN; SURELY only where it would say so of one alone. */
        void weigh(Charter charter, Roll roll, Known known, int body) {
            int sure = 0;
            for (int man = 0; man < roll.men; man++) {
                int verdict = QUARREL;
                if (!known.quarrels(body, roll, man)) {
                    verdict = charter.proven(known, body, roll.nearest(man, known.cellOf[body]));
                }
                verdicts[body * MAX_MEN + man] = verdict;
                sure += verdict == SURELY ? 1 : 0;
            }
            for (int man = 0; sure > 1 && man < roll.men; man++) {
                int at = body * MAX_MEN + man;
                verdicts[at] = Math.min(verdicts[at], MAY_BE);
            }
        }

        /** Finds one NAMING, and by it WHO every BODY is in some and in all of them. */
        void settle(int knownBodies, int men) {
            bodies = knownBodies;
            gatherCandidates(men);
            bindSure(men);
            placeAll(men);
            linkChains();
            int loose = looseBodies();
            int giving = givingBodies(men);
            for (int body = 0; body < MAX_BODIES; body++) {
                who[body] = 0;
                named[body] = NONE;
                for (int man = 0; man < men; man++) {
                    if (hasBit(may[body], man) && (hasBit(loose, body) || canTake(body, man, giving))) {
                        who[body] |= 1 << man;
                    }
                }
                if (!hasBit(loose, body) && who[body] == 1 << manOf[body]) {
                    named[body] = manOf[body];
                }
            }
        }

        private void gatherCandidates(int men) {
            for (int body = 0; body < MAX_BODIES; body++) {
                may[body] = 0;
                for (int man = 0; hasBit(bodies, body) && man < men; man++) {
                    if (verdict(body, man) >= MAY_BE) {
                        may[body] |= 1 << man;
                    }
                }
            }
        }

        /** A BODY that alone SURELY is a MAN is left him only, and he is left to no other. */
        private void bindSure(int men) {
            for (int man = 0; man < men; man++) {
                int owner = onlySureBody(man);
                for (int body = 0; owner != NONE && body < MAX_BODIES; body++) {
                    may[body] = body == owner ? 1 << man : may[body] & ~(1 << man);
                }
            }
        }

        private int onlySureBody(int man) {
            int owner = NONE;
            for (int body = 0; body < MAX_BODIES; body++) {
                if (hasBit(bodies, body) && verdict(body, man) == SURELY) {
                    if (owner != NONE) {
                        return NONE;
                    }
                    owner = body;
                }
            }
            return owner;
        }

        private void placeAll(int men) {
            placed = 0;
            for (int man = 0; man < men; man++) {
                bodyOf[man] = NONE;
            }
            for (int body = 0; body < MAX_BODIES; body++) {
                manOf[body] = NONE;
            }
            for (int body = 0; body < MAX_BODIES; body++) {
                tried = 0;
                if (giveMan(body, men, 0)) {
                    placed++;
                }
            }
        }

        /** Gives a BODY a MAN, moving those who have theirs already to others where it must; each MAN is tried once. */
        private boolean giveMan(int body, int men, int depth) {
            for (int man = 0; depth <= MAX_BODIES && man < men; man++) {
                if (hasBit(may[body] & ~tried, man)) {
                    tried |= 1 << man;
                    if (bodyOf[man] == NONE || giveMan(bodyOf[man], men, depth + 1)) {
                        bodyOf[man] = body;
                        manOf[body] = man;
                        return true;
                    }
                }
            }
            return false;
        }

        private void linkChains() {
            for (int body = 0; body < MAX_BODIES; body++) {
                chain[body] = 1 << body;
                for (int other = 0; other < MAX_BODIES; other++) {
                    if (manOf[other] != NONE && hasBit(may[body], manOf[other])) {
                        chain[body] |= 1 << other;
                    }
                }
            }
            for (int middle = 0; middle < MAX_BODIES; middle++) {
                for (int body = 0; body < MAX_BODIES; body++) {
                    if (hasBit(chain[body], middle)) {
                        chain[body] |= chain[middle];
                    }
                }
            }
        }

        /** BODIES that have nobody in some NAMING: those without a MAN, and all that can give theirs to one of them. */
        private int looseBodies() {
            int loose = 0;
            for (int body = 0; body < MAX_BODIES; body++) {
                if (manOf[body] == NONE) {
                    loose |= chain[body];
                }
            }
            return loose;
        }

        /** BODIES that can leave their MAN, because at the end of a chain there is one whom nobody has. */
        private int givingBodies(int men) {
            int taking = 0;
            int giving = 0;
            for (int body = 0; body < MAX_BODIES; body++) {
                for (int man = 0; man < men; man++) {
                    if (bodyOf[man] == NONE && hasBit(may[body], man)) {
                        taking |= 1 << body;
                    }
                }
            }
            for (int body = 0; body < MAX_BODIES; body++) {
                if ((chain[body] & taking) != 0) {
                    giving |= 1 << body;
                }
            }
            return giving;
        }

        /** Whether a BODY can have this MAN with as many BODIES placed: nobody has him, or who has him can change. */
        private boolean canTake(int body, int man, int giving) {
            int holder = bodyOf[man];
            return holder == NONE || hasBit(giving, holder) || hasBit(chain[holder], body);
        }

        int menNamed() {
            int men = 0;
            for (int body = 0; body < MAX_BODIES; body++) {
                if (named[body] != NONE) {
                    men |= 1 << named[body];
                }
            }
            return men;
        }

        /** How many NAMINGS there are: MAN by MAN, in how many ways each set of BODIES can have one. */
        long tally(int found, int men) {
            int sets = 1 << Math.min(found, MAX_BODIES);
            for (int set = 0; set < sets; set++) {
                ways[set] = 0;
            }
            ways[0] = 1;
            for (int man = 0; man < men; man++) {
                int takers = takersOf(man);
                // Downward, so that a smaller set still tells the ways without this MAN.
                for (int set = sets - 1; takers != 0 && set > 0; set--) {
                    ways[set] += waysWith(set & takers, set);
                }
            }
            long sum = 0;
            for (int set = 0; set < sets; set++) {
                sum += Integer.bitCount(set) == placed ? ways[set] : 0;
            }
            return sum;
        }

        private int takersOf(int man) {
            int takers = 0;
            for (int body = 0; body < MAX_BODIES; body++) {
                if (hasBit(may[body], man)) {
                    takers |= 1 << body;
                }
            }
            return takers;
        }

        private long waysWith(int takers, int set) {
            long sum = 0;
            for (int body = 0; takers >> body != 0 && body < MAX_BODIES; body++) {
                if (hasBit(takers, body)) {
                    sum += ways[set & ~(1 << body)];
                }
            }
            return sum;
        }
    }

    /** Where to dig: the sum of shares of each CELL, in parts of a number that 1 .. 25 all divide. */
    private static final class Spade {
        private static final long WHOLE = 26771144400L;

        private final long[] parts = new long[MAX_CELLS];

        void divide(Roll roll, Known known, int missingMen) {
            for (int cell = 0; cell < MAX_CELLS; cell++) {
                parts[cell] = 0;
            }
            for (int man = 0; man < roll.men; man++) {
                if (hasBit(missingMen, man)) {
                    divideMan(roll, known, man);
                }
            }
        }

        /** NEAR is NONE to every CELL or to none, so the least of all serves a MAN whose UNIT was nowhere, too. */
        private void divideMan(Roll roll, Known known, int man) {
            int least = MAX_CELLS;
            int alike = 0;
            for (int cell = 0; cell < roll.cells; cell++) {
                if (known.canBeDug(cell)) {
                    int distance = roll.nearest(man, cell);
                    if (distance < least) {
                        least = distance;
                        alike = 0;
                    }
                    alike += distance == least ? 1 : 0;
                }
            }
            for (int cell = 0; alike > 0 && cell < roll.cells; cell++) {
                if (known.canBeDug(cell) && roll.nearest(man, cell) == least) {
                    parts[cell] += WHOLE / alike;
                }
            }
        }

        long upper(int cell) {
            long common = commonDivisor(parts[cell]);
            return common > 0 ? parts[cell] / common : 0;
        }

        long lower(int cell) {
            long common = commonDivisor(parts[cell]);
            return common > 0 ? WHOLE / common : 1;
        }

        private static long commonDivisor(long part) {
            long a = WHOLE;
            long b = part;
            // Two steps halve the greater number at least: 128 are more than enough for any long.
            for (int step = 0; step < 128 && b != 0; step++) {
                long rest = a % b;
                a = b;
                b = rest;
            }
            return a;
        }

        /** The first CELL with the greatest SHARE; NONE if all have none. */
        int richest(int cells) {
            int best = NONE;
            long most = 0;
            for (int cell = 0; cell < cells; cell++) {
                if (parts[cell] > most) {
                    most = parts[cell];
                    best = cell;
                }
            }
            return best;
        }
    }

    /** The yard that cuts the STONES of the FIELDS, one FIELD behind the other. */
    private static final class Yard {
        private static final int MAX_FIELDS = 8;
        private static final int LAST_SEASON = 20;
        private static final int SEASONS = 21;

        private final int[] stones = new int[MAX_FIELDS];
        private final int[] living = new int[MAX_FIELDS * SEASONS];
        /** The greatest sum of all FIELDS that aren't in a set, once those of the set are DONE. */
        private final int[] best = new int[1 << MAX_FIELDS];
        private int fields;
        private int pace;

        Yard() {
            pace = 100;
        }

        boolean hasField(int field) {
            return field >= 0 && field < fields;
        }

        int addField(int many) {
            if (fields == MAX_FIELDS) {
                return NONE;
            }
            stones[fields] = many;
            fields++;
            return fields - 1;
        }

        void setKin(int field, int season, int many) {
            living[field * SEASONS + season] = many;
        }

        /** The SEASON in which so many STONES are cut. */
        private int seasonOf(int cut) {
            return pace > 0 ? (cut - 1) / pace : 0;
        }

        private int stonesOf(int set) {
            int sum = 0;
            for (int field = 0; field < fields; field++) {
                sum += hasBit(set, field) ? stones[field] : 0;
            }
            return sum;
        }

        /** KIN who see their FIELD if it is cut behind so many STONES. */
        private int seeing(int field, int before) {
            int sum = 0;
            for (int season = seasonOf(before + stones[field]); season <= LAST_SEASON; season++) {
                sum += living[field * SEASONS + season];
            }
            return sum;
        }

        int bestSum() {
            int all = (1 << fields) - 1;
            best[all] = 0;
            for (int set = all - 1; set >= 0; set--) {
                int before = stonesOf(set);
                best[set] = 0;
                for (int field = 0; field < fields; field++) {
                    if (!hasBit(set, field)) {
                        best[set] = Math.max(best[set], sumFrom(set, before, field));
                    }
                }
            }
            return best[0];
        }

        private int sumFrom(int set, int before, int field) {
            return seeing(field, before) + best[set | (1 << field)];
        }

        int lastSeason() {
            return fields == 0 ? NONE : seasonOf(stonesOf((1 << fields) - 1));
        }

        /** Goes along the PLAN, at each place with the least FIELD that still leads to the greatest sum. */
        int fieldInPlace(int place) {
            if (place < 0 || place >= fields) {
                return NONE;
            }
            bestSum();
            int set = 0;
            int chosen = NONE;
            for (int i = 0; i <= place; i++) {
                chosen = firstBest(set);
                set |= chosen == NONE ? 0 : 1 << chosen;
            }
            return chosen;
        }

        private int firstBest(int set) {
            int before = stonesOf(set);
            for (int field = 0; field < fields; field++) {
                if (!hasBit(set, field) && sumFrom(set, before, field) == best[set]) {
                    return field;
                }
            }
            return NONE;
        }

        /** The sum for an order of three bits a FIELD; NONE if it is none of all. */
        int sumOf(int order) {
            int set = 0;
            int before = 0;
            int sum = 0;
            for (int place = 0; place < fields; place++) {
                int field = (order >> (3 * place)) & 7;
                if (field >= fields || hasBit(set, field)) {
                    return NONE;
                }
                sum += seeing(field, before);
                before += stones[field];
                set |= 1 << field;
            }
            return sum;
        }
    }
}
