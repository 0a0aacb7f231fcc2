import java.util.Arrays;

/**
 * Signs of an old script, the squares they are set in, and the words they spell.
 * The document (DOC.md) tells what every call answers; capital words here are its terms.
 */
public final class ScribeBlocks {
    public static final int NONE = -1;
    public static final int RANGE = -2;
    public static final int FULL = -3;
    public static final int STATE = -4;

    private static final int NO_SUCH = -9;
    private static final int LAST_DAY = 999;
    private static final int FIRST_ITEM = 10;

    private static final int SYNTAX = 1;
    private static final int BOUNDS = 2;
    private static final int TWICE = 3;
    private static final int ROOM = 4;
    private static final int UNKNOWN = 5;

    private final Tape tape;
    private final SignList list;
    private final SignList spare;
    private final BlockText text;
    private final Blocks laid;
    private final Terms terms;
    private final Speller speller;
    private final Grouper grouper;
    private final Chooser chooser;
    private final RowReader rows;
    private final Passage passage;
    private final ValueBook values;
    private boolean facingLeft;

    public ScribeBlocks() {
        tape = new Tape();
        list = new SignList();
        spare = new SignList();
        text = new BlockText(list);
        laid = new Blocks(list, text);
        terms = new Terms();
        speller = new Speller(terms, list);
        grouper = new Grouper(list);
        chooser = new Chooser(list, speller, grouper);
        rows = new RowReader(list, terms, speller);
        passage = new Passage(chooser);
        values = new ValueBook();
    }

    // ---- the tape

    public int feed(int a, int b, int c, int d, int e) {
        if (tape.size + 20 > Tape.MOST) {
            return FULL;
        }
        tape.put(a);
        tape.put(b);
        tape.put(c);
        tape.put(d);
        tape.put(e);
        return tape.size;
    }

    public int end(int n) {
        if (n < 0 || n > tape.size) {
            return NONE;
        }
        tape.size = n;
        return n;
    }

    // ---- the list

    public int list() {
        tape.rewind();
        tape.forgetFault();
        int clauses = spare.take(tape);
        tape.drain();
        if (clauses < 0) {
            return NONE;
        }
        list.become(spare);
        laid.forget();
        rows.forget();
        grouper.forget();
        values.forget();
        chooser.forget();
        passage.forgetFilled();
        return clauses;
    }

    public int fault(int what) {
        if (what == 0) {
            return tape.faultKind;
        }
        return what == 1 ? tape.faultPlace : NONE;
    }

    public int rule(int what) {
        if (what == 0) {
            return list.size;
        }
        if (what < 1 || what > SignList.RULES) {
            return NO_SUCH;
        }
        return list.rules[what - 1];
    }

    public int sign(int s, int what) {
        if (!list.has(s)) {
            return NO_SUCH;
        }
        switch (what) {
            case 0:
                return list.widths[s];
            case 1:
                return list.heights[s];
            case 2:
                return list.kinds[s];
            case 3:
                return list.soundCounts[s];
            default:
                return soundOf(list.soundRows[s], list.soundCounts[s], what, NO_SUCH);
        }
    }

    public int named() {
        tape.rewind();
        tape.next();
        boolean word = tape.kind == Tape.WORD;
        long name = tape.name;
        tape.next();
        boolean alone = tape.kind == Tape.END;
        tape.drain();
        return word && alone ? list.find(name) : NONE;
    }

    // ---- blocks

    public int blocks() {
        tape.rewind();
        tape.forgetFault();
        boolean right = text.take(tape);
        tape.drain();
        if (!right) {
            return NONE;
        }
        laid.layOut();
        return laid.size;
    }

    public int block(int b, int what) {
        if (b < 0 || b >= laid.size) {
            return NO_SUCH;
        }
        int size = laid.sizes[b];
        int edge = edgeOf(size);
        switch (what) {
            case 0:
                return widthOf(size);
            case 1:
                return heightOf(size);
            case 2:
                return laid.signsIn[b];
            case 3:
                return list.percentOf(edge);
            case 4:
                return list.isLegible(edge) ? 1 : 0;
            case 5:
                return list.shrunk(widthOf(size), edge);
            case 6:
                return list.shrunk(heightOf(size), edge);
            default:
                return NO_SUCH;
        }
    }

    public int box(int k, int what) {
        if (k < 0 || k >= laid.signCount) {
            return NO_SUCH;
        }
        switch (what) {
            case 0:
                return laid.signs[k];
            case 1:
                return laid.blockOf[k];
            case 2:
                return laid.leftEdge(k, facingLeft);
            case 3:
                return laid.upperEdge(k);
            case 4:
                return laid.boxWidth(k);
            case 5:
                return laid.boxHeight(k);
            default:
                return NO_SUCH;
        }
    }

    public int face(boolean left) {
        int turned = facingLeft == left ? 0 : 1;
        facingLeft = left;
        return turned;
    }

    // ---- terms

    public int term() {
        tape.rewind();
        int t = terms.take(tape);
        tape.drain();
        return t;
    }

    public int about(int t, int what) {
        if (!terms.has(t)) {
            return NO_SUCH;
        }
        if (what == 0) {
            return terms.soundCounts[t];
        }
        if (what == 1) {
            return terms.kinds[t] == Tape.NO_NAME ? 0 : 1;
        }
        return soundOf(terms.soundRows[t], terms.soundCounts[t], what, NO_SUCH);
    }

    public int spellings(int t) {
        if (!terms.has(t)) {
            return RANGE;
        }
        int many = chooser.spellingsOf(t);
        return many > Speller.MOST ? FULL : many;
    }

    public int best(int t) {
        if (!terms.has(t)) {
            return RANGE;
        }
        return chooser.bestPaint(t);
    }

    public int bestSign(int t, int i) {
        if (!terms.has(t)) {
            return NONE;
        }
        return chooser.bestSignAt(t, i);
    }

    // ---- rows

    public int write() {
        tape.rewind();
        int many = rows.take(tape);
        tape.drain();
        if (many > 0) {
            grouper.forget();
        }
        return many;
    }

    public int written(int i) {
        return i < 0 || i >= rows.size ? NONE : rows.row[i];
    }

    public int ways() {
        if (rows.size == 0) {
            return STATE;
        }
        return rows.countWays(list);
    }

    public int waysOn(int day, int known) {
        if (!isDay(day) || !isDay(known)) {
            return RANGE;
        }
        if (rows.size == 0) {
            return STATE;
        }
        spare.become(list);
        values.applyTo(spare, day, known);
        return rows.countWays(spare);
    }

    public int read() {
        if (rows.size == 0) {
            return STATE;
        }
        return rows.findFirstWay();
    }

    public int readTerm(int i, int what) {
        if (i < 0 || i >= rows.termsRead) {
            return NONE;
        }
        if (what == 0) {
            return rows.readTerms[i];
        }
        return what == 1 ? rows.readLengths[i] : NONE;
    }

    public int spells(int t) {
        if (!terms.has(t)) {
            return RANGE;
        }
        if (rows.size == 0) {
            return STATE;
        }
        return rows.isSpellingOf(t) ? 1 : 0;
    }

    public int group() {
        if (rows.size == 0) {
            return STATE;
        }
        return grouper.arrange(rows.row, rows.size);
    }

    public int grouped(int i, int what) {
        if (i < 0 || i >= grouper.blockCount) {
            return NONE;
        }
        if (what == 0) {
            return grouper.shapes[i];
        }
        return what == 1 ? grouper.percents[i] : NONE;
    }

    // ---- passages

    public int clear() {
        int had = passage.size;
        passage.size = 0;
        passage.forgetFilled();
        return had;
    }

    public int say(int t) {
        if (!terms.has(t)) {
            return RANGE;
        }
        return passage.put(t) ? passage.size : FULL;
    }

    public int fill(int n) {
        if (n < 1 || n > Passage.MOST_SQUARES) {
            return RANGE;
        }
        if (passage.size == 0) {
            return STATE;
        }
        return chooser.settle(passage.said, passage.size) ? passage.fillWith(n) : FULL;
    }

    public int filled(int i, int what) {
        if (i < 0 || i >= passage.filledTerms) {
            return NONE;
        }
        int length = passage.filledLengths[i];
        if (what == 0) {
            return passage.filledBlocks[i];
        }
        return what == 1 ? length : signOf(passage.filledRows[i], length, what - FIRST_ITEM);
    }

    public int fills() {
        if (passage.size == 0) {
            return STATE;
        }
        return chooser.settle(passage.said, passage.size) ? passage.countFills() : FULL;
    }

    public int judge() {
        if (laid.size == 0 || passage.size == 0) {
            return STATE;
        }
        int b = laid.firstIllegible();
        return b >= 0 ? 1000 + b : judgeSpellings();
    }

    private int judgeSpellings() {
        int ends = 1;
        for (int t = 0; t < passage.size; t++) {
            speller.look(list, passage.said[t]);
            ends = speller.endsFromAny(laid.signs, laid.signCount, ends);
            if (ends == 0) {
                return 2000 + t;
            }
        }
        return (ends >>> laid.signCount & 1) == 1 ? 0 : 3000;
    }

    // ---- values

    public int value(int s, int from, int day) {
        tape.rewind();
        tape.next();
        boolean right = tape.isRow(SignList.MOST_SOUNDS);
        int row = tape.row;
        int many = tape.letters;
        tape.next();
        right = right && tape.kind == Tape.END;
        tape.drain();
        if (!list.has(s) || !isDay(from) || !isDay(day) || day < values.latest) {
            return RANGE;
        }
        if (!right) {
            return NONE;
        }
        if (values.size >= ValueBook.MOST) {
            return FULL;
        }
        values.put(s, from, day);
        values.putSounds(row, many);
        return values.size;
    }

    public int valueOn(int s, int day, int known, int what) {
        if (!list.has(s) || !isDay(day) || !isDay(known)) {
            return RANGE;
        }
        int v = values.latestFor(s, day, known);
        int many = v < 0 ? list.soundCounts[s] : values.soundCounts[v];
        int row = v < 0 ? list.soundRows[s] : values.soundRows[v];
        return what == 0 ? many : soundOf(row, many, what, NONE);
    }

    public int count(int what) {
        switch (what) {
            case 0:
                return list.size;
            case 1:
                return terms.size;
            case 2:
                return laid.size;
            case 3:
                return laid.signCount;
            case 4:
                return rows.size;
            case 5:
                return passage.size;
            case 6:
                return values.size;
            case 7:
                return tape.size;
            default:
                return NONE;
        }
    }

    // ---- numbers that hold several

    private static boolean isDay(int day) {
        return day >= 0 && day <= LAST_DAY;
    }

    /** A ROW of SOUNDS is one int, four bits each, the first lowest: a .. p are sixteen. */
    private static int soundAt(int row, int i) {
        return row >>> (4 * i) & 15;
    }

    private static int soundOf(int row, int many, int what, int otherwise) {
        int i = what - FIRST_ITEM;
        return i < 0 || i >= many ? otherwise : soundAt(row, i);
    }

    /**
     * A row of SIGNS is one long, six bits each, the last lowest, so that of two rows of one
     * length the lesser row is the lesser number. No SPELLING is longer than the nine SIGNS of
     * eight SOUNDS and a KIND (an ECHO comes only behind a SIGN that saved one), so all fit.
     */
    private static long withSign(long row, int s) {
        return row * 64 + s;
    }

    private static int signOf(long row, int length, int i) {
        return i < 0 || i >= length ? NONE : (int) (row >>> (6 * (length - 1 - i)) & 63);
    }

    /** Width and height in one int; the widest BLOCK of 24 SIGNS stays below 2000. */
    private static int sizeOf(int width, int height) {
        return width * 65536 + height;
    }

    private static int widthOf(int size) {
        return size >>> 16;
    }

    private static int heightOf(int size) {
        return size & 65535;
    }

    private static int edgeOf(int size) {
        return Math.max(widthOf(size), heightOf(size));
    }

    /** THE TAPE, its TOKENS, and the FAULT of the latest text that was judged by FAULTS. */
    private static final class Tape {
        static final int MOST = 800;
        static final int MOST_LETTERS = 12;
        static final int MOST_DIGITS = 4;
        static final long NO_NAME = 0;

        static final int END = 0;
        static final int WORD = 1;
        static final int NUMBER = 2;
        static final int MARK = 3;
        static final int BAD = 4;

        final byte[] bytes = new byte[MOST];
        int size;
        int at;
        int kind;
        int place;
        /** Of the latest WORD: how many letters, its name, its SOUNDS if it is of these alone. */
        int letters;
        long name;
        int row;
        boolean ofSounds;
        int number;
        int mark;
        int faultKind;
        int faultPlace = NONE;

        void put(int four) {
            for (int shift = 24; shift >= 0; shift -= 8) {
                if (size < MOST) {
                    bytes[size] = (byte) (four >>> shift);
                    size++;
                }
            }
        }

        void rewind() {
            at = 0;
        }

        void drain() {
            size = 0;
        }

        void forgetFault() {
            faultKind = 0;
            faultPlace = NONE;
        }

        /** The TOKEN that was read last is at FAULT; false, so that a reader can hand it on. */
        boolean refuse(int faultOf) {
            faultKind = faultOf;
            faultPlace = place;
            return false;
        }

        void next() {
            while (at < size && (bytes[at] == 32 || bytes[at] == 10)) {
                at++;
            }
            place = at;
            if (at >= size) {
                kind = END;
            } else if (isLetter(bytes[at])) {
                takeWord();
            } else if (isDigit(bytes[at])) {
                takeNumber();
            } else {
                takeMark();
            }
        }

        private void takeWord() {
            letters = 0;
            name = NO_NAME;
            row = 0;
            ofSounds = true;
            while (at < size && isLetter(bytes[at])) {
                int letter = bytes[at] - 'a';
                if (letters < MOST_LETTERS) {
                    name = name * 32 + letter + 1;
                }
                if (letter > 15) {
                    ofSounds = false;
                } else if (letters < Terms.MOST_SOUNDS) {
                    row |= letter << (4 * letters);
                }
                letters++;
                at++;
            }
            kind = letters > MOST_LETTERS ? BAD : WORD;
        }

        private void takeNumber() {
            int digits = 0;
            number = 0;
            while (at < size && isDigit(bytes[at])) {
                if (digits < MOST_DIGITS) {
                    number = number * 10 + bytes[at] - '0';
                }
                digits++;
                at++;
            }
            kind = digits > MOST_DIGITS ? BAD : NUMBER;
        }

        private void takeMark() {
            mark = bytes[at];
            at++;
            kind = isMark(mark) ? MARK : BAD;
        }

        private static boolean isLetter(int b) {
            return b >= 'a' && b <= 'z';
        }

        private static boolean isDigit(int b) {
            return b >= '0' && b <= '9';
        }

        private static boolean isMark(int b) {
            return b == ';' || b == ':' || b == '*' || b == '&' || b == '-' || b == '(' || b == ')';
        }

        boolean isMarked(int wanted) {
            return kind == MARK && mark == wanted;
        }

        boolean isRow(int most) {
            return kind == WORD && ofSounds && letters <= most;
        }

        boolean isWord(String wanted) {
            if (kind != WORD || letters != wanted.length()) {
                return false;
            }
            for (int i = 0; i < letters; i++) {
                if (place + i >= size || bytes[place + i] != wanted.charAt(i)) {
                    return false;
                }
            }
            return true;
        }
    }

    /** THE LIST: SIGNS and rules. */
    private static final class SignList {
        static final int MOST = 40;
        static final int MOST_EDGE = 60;
        static final int MOST_SOUNDS = 3;

        static final int OF_SOUNDS = 1;
        static final int IDEA = 2;
        static final int KIND = 3;

        static final int RULES = 4;
        static final int GAP = 0;
        static final int SQUARE = 1;
        static final int LEAST = 2;
        static final int ECHO = 3;
        private static final int[] LOWEST = {0, 8, 1, 0};
        private static final int[] HIGHEST = {9, 99, 100, 3};
        private static final int[] UNTOLD = {1, 24, 50, 1};

        int size;
        final long[] names = new long[MOST];
        final int[] widths = new int[MOST];
        final int[] heights = new int[MOST];
        final int[] kinds = new int[MOST];
        final int[] soundCounts = new int[MOST];
        final int[] soundRows = new int[MOST];
        /** The name of the TERM that an IDEA means, or of the KIND. */
        final long[] meanings = new long[MOST];
        final int[] rules = new int[RULES];
        private int rulesTold;

        SignList() {
            System.arraycopy(UNTOLD, 0, rules, 0, RULES);
        }

        void become(SignList other) {
            size = other.size;
            System.arraycopy(other.names, 0, names, 0, size);
            System.arraycopy(other.widths, 0, widths, 0, size);
            System.arraycopy(other.heights, 0, heights, 0, size);
            System.arraycopy(other.kinds, 0, kinds, 0, size);
            System.arraycopy(other.soundCounts, 0, soundCounts, 0, size);
            System.arraycopy(other.soundRows, 0, soundRows, 0, size);
            System.arraycopy(other.meanings, 0, meanings, 0, size);
            System.arraycopy(other.rules, 0, rules, 0, RULES);
        }

        boolean has(int s) {
            return s >= 0 && s < size;
        }

        int find(long name) {
            for (int s = 0; s < size; s++) {
                if (names[s] == name) {
                    return s;
                }
            }
            return NONE;
        }

        int paintOf(int s) {
            return widths[s] * heights[s];
        }

        void putSounds(int s, int row, int many) {
            kinds[s] = OF_SOUNDS;
            soundRows[s] = row;
            soundCounts[s] = many;
        }

        /** A number of a BLOCK, shrunk to the square; edge is the greater one of its two. */
        int shrunk(int c, int edge) {
            int square = rules[SQUARE];
            int g = edge > square ? edge : square;
            return g < 1 ? 0 : c * square / g;
        }

        /** PERCENT of a BLOCK is one hundred, shrunk as it is. */
        int percentOf(int edge) {
            return shrunk(100, edge);
        }

        boolean isLegible(int edge) {
            return shrunk(100, edge) >= rules[LEAST];
        }

        /** How many clauses the text has, or NONE with a FAULT; then this list is worth nothing. */
        int take(Tape tape) {
            size = 0;
            rulesTold = 0;
            System.arraycopy(UNTOLD, 0, rules, 0, RULES);
            for (int clauses = 0; clauses <= Tape.MOST; clauses++) {
                tape.next();
                if (tape.kind == Tape.END) {
                    return clauses;
                }
                boolean right = tape.isWord("sign") ? takeSign(tape) : takeRule(tape);
                if (!right) {
                    return NONE;
                }
            }
            return NONE;
        }

        private boolean takeRule(Tape tape) {
            int r = ruleNamed(tape);
            if (r < 0) {
                return tape.refuse(SYNTAX);
            }
            if ((rulesTold >> r & 1) == 1) {
                return tape.refuse(TWICE);
            }
            rulesTold |= 1 << r;
            if (!takeNumber(tape, LOWEST[r], HIGHEST[r])) {
                return false;
            }
            rules[r] = tape.number;
            tape.next();
            return tape.isMarked(';') || tape.refuse(SYNTAX);
        }

        private static int ruleNamed(Tape tape) {
            if (tape.isWord("gap")) {
                return GAP;
            }
            if (tape.isWord("square")) {
                return SQUARE;
            }
            if (tape.isWord("least")) {
                return LEAST;
            }
            return tape.isWord("echo") ? ECHO : NONE;
        }

        private boolean takeSign(Tape tape) {
            if (size >= MOST) {
                return tape.refuse(ROOM);
            }
            int s = size;
            tape.next();
            if (tape.kind != Tape.WORD) {
                return tape.refuse(SYNTAX);
            }
            if (find(tape.name) >= 0) {
                return tape.refuse(TWICE);
            }
            names[s] = tape.name;
            if (!takeNumber(tape, 1, MOST_EDGE)) {
                return false;
            }
            widths[s] = tape.number;
            if (!takeNumber(tape, 1, MOST_EDGE)) {
                return false;
            }
            heights[s] = tape.number;
            if (!takeValue(tape, s)) {
                return false;
            }
            size++;
            return tape.isMarked(';') || tape.refuse(SYNTAX);
        }

        private static boolean takeNumber(Tape tape, int lowest, int highest) {
            tape.next();
            if (tape.kind != Tape.NUMBER) {
                return tape.refuse(SYNTAX);
            }
            return tape.number >= lowest && tape.number <= highest || tape.refuse(BOUNDS);
        }

        /** Reads on to the TOKEN behind the value, be there one or none. */
        private boolean takeValue(Tape tape, int s) {
            kinds[s] = 0;
            soundCounts[s] = 0;
            soundRows[s] = 0;
            meanings[s] = Tape.NO_NAME;
            tape.next();
            if (tape.isWord("sounds")) {
                return takeSounds(tape, s);
            }
            if (tape.isWord("means")) {
                return takeMeaning(tape, s, IDEA);
            }
            return !tape.isWord("kind") || takeMeaning(tape, s, KIND);
        }

        private boolean takeSounds(Tape tape, int s) {
            tape.next();
            if (!tape.isRow(Tape.MOST_LETTERS)) {
                return tape.refuse(SYNTAX);
            }
            if (tape.letters > MOST_SOUNDS) {
                return tape.refuse(BOUNDS);
            }
            putSounds(s, tape.row, tape.letters);
            tape.next();
            return true;
        }

        private boolean takeMeaning(Tape tape, int s, int kindOfValue) {
            tape.next();
            if (tape.kind != Tape.WORD) {
                return tape.refuse(SYNTAX);
            }
            kinds[s] = kindOfValue;
            meanings[s] = tape.name;
            tape.next();
            return true;
        }
    }

    /** The text of BLOCKS, judged and kept as codes: a SIGN's number, or a mark's byte below 0. */
    private static final class BlockText {
        static final int MOST_BLOCKS = 12;
        static final int MOST_SIGNS = 24;
        static final int MOST_OPEN = 4;
        /** 24 SIGNS, 23 marks between them, four ( and four ) around each: 239 at most. */
        private static final int MOST_CODES = 240;

        private static final int WANTS_BLOCK = 0;
        private static final int WANTS_ITEM = 1;
        private static final int WANTS_INNER = 2;
        private static final int BEHIND_SIGN = 3;
        private static final int BEHIND_ITEM = 4;

        private final SignList list;
        private final int[] codes = new int[MOST_CODES];
        int used;
        private int state;
        private int open;
        private int blockCount;
        private int signCount;

        BlockText(SignList list) {
            this.list = list;
        }

        boolean take(Tape tape) {
            used = 0;
            state = WANTS_BLOCK;
            open = 0;
            blockCount = 0;
            signCount = 0;
            for (int i = 0; i <= Tape.MOST; i++) {
                tape.next();
                if (tape.kind == Tape.END) {
                    return isWhole() && open == 0 || tape.refuse(SYNTAX);
                }
                if (!takeToken(tape)) {
                    return false;
                }
            }
            return false;
        }

        /** The code at a place of the text; behind its end a mark that goes on with nothing. */
        int codeAt(int i) {
            return i < 0 || i >= used ? -'-' : codes[i];
        }

        private boolean isWhole() {
            return state == BEHIND_SIGN || state == BEHIND_ITEM;
        }

        private boolean wantsItem() {
            return state == WANTS_BLOCK || state == WANTS_ITEM;
        }

        private boolean takeToken(Tape tape) {
            if (tape.kind == Tape.WORD) {
                return takeName(tape);
            }
            if (tape.kind != Tape.MARK || !goesOn(tape.mark)) {
                return tape.refuse(SYNTAX);
            }
            return tape.mark == '(' ? takeOpening(tape) : takeOther(tape.mark);
        }

        private boolean goesOn(int mark) {
            switch (mark) {
                case '(':
                    return wantsItem();
                case ')':
                    return isWhole() && open > 0;
                case '-':
                    return isWhole() && open == 0;
                case '&':
                    return state == BEHIND_SIGN;
                case '*':
                case ':':
                    return isWhole();
                default:
                    return false;
            }
        }

        private boolean takeName(Tape tape) {
            if (!wantsItem() && state != WANTS_INNER) {
                return tape.refuse(SYNTAX);
            }
            if (!beginBlock() || signCount >= MOST_SIGNS) {
                return tape.refuse(ROOM);
            }
            int s = list.find(tape.name);
            if (s < 0) {
                return tape.refuse(UNKNOWN);
            }
            signCount++;
            state = state == WANTS_INNER ? BEHIND_ITEM : BEHIND_SIGN;
            keep(s);
            return true;
        }

        private boolean takeOpening(Tape tape) {
            if (!beginBlock() || open >= MOST_OPEN) {
                return tape.refuse(ROOM);
            }
            open++;
            state = WANTS_ITEM;
            keep(-tape.mark);
            return true;
        }

        private boolean takeOther(int mark) {
            if (mark == ')') {
                open--;
                state = BEHIND_ITEM;
            } else if (mark == '-') {
                state = WANTS_BLOCK;
            } else {
                state = mark == '&' ? WANTS_INNER : WANTS_ITEM;
            }
            keep(-mark);
            return true;
        }

        /** Counts a BLOCK at its first TOKEN; false when there is no room for it. */
        private boolean beginBlock() {
            if (state != WANTS_BLOCK) {
                return true;
            }
            blockCount++;
            return blockCount <= MOST_BLOCKS;
        }

        private void keep(int code) {
            if (used < MOST_CODES) {
                codes[used] = code;
                used++;
            }
        }
    }

    /** BLOCKS as told: the SIGNS with their PLACES of NATURAL size. */
    private static final class Blocks {
        private final SignList list;
        private final BlockText text;
        int size;
        final int[] sizes = new int[BlockText.MOST_BLOCKS];
        final int[] signsIn = new int[BlockText.MOST_BLOCKS];
        int signCount;
        final int[] signs = new int[BlockText.MOST_SIGNS];
        final int[] blockOf = new int[BlockText.MOST_SIGNS];
        private final int[] lefts = new int[BlockText.MOST_SIGNS];
        private final int[] uppers = new int[BlockText.MOST_SIGNS];
        private final int[] signSizes = new int[BlockText.MOST_SIGNS];
        /** Parts that wait for what stands beside or over them; each holds a SIGN or more. */
        private final int[] partFirst = new int[BlockText.MOST_SIGNS];
        private final int[] partSizes = new int[BlockText.MOST_SIGNS];
        private int parts;
        private int cursor;

        Blocks(SignList list, BlockText text) {
            this.list = list;
            this.text = text;
        }

        void forget() {
            size = 0;
            signCount = 0;
        }

        void layOut() {
            forget();
            parts = 0;
            cursor = 0;
            while (cursor < text.used && size < BlockText.MOST_BLOCKS) {
                int first = signCount;
                sizes[size] = layBeside(0);
                signsIn[size] = signCount - first;
                size++;
                cursor++;
            }
        }

        private int layBeside(int depth) {
            int base = parts;
            for (int i = 0; i < BlockText.MOST_SIGNS; i++) {
                int first = signCount;
                waitWith(first, layOver(depth));
                if (text.codeAt(cursor) != -'*') {
                    break;
                }
                cursor++;
            }
            return settle(base, true);
        }

        private int layOver(int depth) {
            int base = parts;
            for (int i = 0; i < BlockText.MOST_SIGNS; i++) {
                int first = signCount;
                waitWith(first, layItem(depth));
                if (text.codeAt(cursor) != -':') {
                    break;
                }
                cursor++;
            }
            return settle(base, false);
        }

        private int layItem(int depth) {
            int code = text.codeAt(cursor);
            cursor++;
            if (code >= 0) {
                return layWithInner(code);
            }
            if (depth >= BlockText.MOST_OPEN) {
                return 0;
            }
            int inside = layBeside(depth + 1);
            cursor++;
            return inside;
        }

        private int layWithInner(int s) {
            int width = list.widths[s];
            int whole = sizeOf(width, list.heights[s]);
            putSign(s, 0, whole);
            int inner = text.codeAt(cursor + 1);
            if (text.codeAt(cursor) == -'&' && list.has(inner)) {
                cursor += 2;
                int halfWidth = Math.max(1, list.widths[inner] / 2);
                int halfHeight = Math.max(1, list.heights[inner] / 2);
                putSign(inner, width - halfWidth, sizeOf(halfWidth, halfHeight));
            }
            return whole;
        }

        private void putSign(int s, int left, int signSize) {
            if (signCount >= BlockText.MOST_SIGNS) {
                return;
            }
            signs[signCount] = s;
            blockOf[signCount] = size;
            lefts[signCount] = left;
            uppers[signCount] = 0;
            signSizes[signCount] = signSize;
            signCount++;
        }

        private void waitWith(int first, int partSize) {
            if (parts < BlockText.MOST_SIGNS) {
                partFirst[parts] = first;
                partSizes[parts] = partSize;
                parts++;
            }
        }

        /** Puts the parts from base on beside (or over) one another; the size of them all. */
        private int settle(int base, boolean beside) {
            int greatest = 0;
            for (int p = base; p < parts; p++) {
                greatest = Math.max(greatest, across(partSizes[p], beside));
            }
            int gap = list.rules[SignList.GAP];
            int behind = -gap;
            for (int p = base; p < parts; p++) {
                int along = behind + gap;
                int middle = (greatest - across(partSizes[p], beside)) / 2;
                int until = p + 1 < parts ? partFirst[p + 1] : signCount;
                shift(partFirst[p], until, beside ? along : middle, beside ? middle : along);
                behind = along + across(partSizes[p], !beside);
            }
            parts = base;
            return beside ? sizeOf(behind, greatest) : sizeOf(greatest, behind);
        }

        private static int across(int partSize, boolean beside) {
            return beside ? heightOf(partSize) : widthOf(partSize);
        }

        private void shift(int first, int until, int right, int down) {
            for (int k = first; k < until; k++) {
                lefts[k] += right;
                uppers[k] += down;
            }
        }

        private int shrunkAs(int k, int c) {
            return list.shrunk(c, edgeOf(sizes[blockOf[k]]));
        }

        int boxWidth(int k) {
            return shrunkAs(k, widthOf(signSizes[k]));
        }

        int boxHeight(int k) {
            return shrunkAs(k, heightOf(signSizes[k]));
        }

        int leftEdge(int k, boolean facingLeft) {
            int square = list.rules[SignList.SQUARE];
            int aside = (square - shrunkAs(k, widthOf(sizes[blockOf[k]]))) / 2;
            int left = shrunkAs(k, lefts[k]) + aside;
            return facingLeft ? square - (left + boxWidth(k)) : left;
        }

        int upperEdge(int k) {
            int square = list.rules[SignList.SQUARE];
            int down = (square - shrunkAs(k, heightOf(sizes[blockOf[k]]))) / 2;
            return shrunkAs(k, uppers[k]) + down;
        }

        int firstIllegible() {
            for (int b = 0; b < size; b++) {
                if (!list.isLegible(edgeOf(sizes[b]))) {
                    return b;
                }
            }
            return NONE;
        }
    }

    /** TERMS; they stay when another LIST comes. */
    private static final class Terms {
        static final int MOST = 40;
        static final int MOST_SOUNDS = 8;

        int size;
        final long[] names = new long[MOST];
        final int[] soundRows = new int[MOST];
        final int[] soundCounts = new int[MOST];
        final long[] kinds = new long[MOST];

        boolean has(int t) {
            return t >= 0 && t < size;
        }

        int take(Tape tape) {
            tape.next();
            if (tape.kind != Tape.WORD) {
                return NONE;
            }
            long name = tape.name;
            tape.next();
            if (!tape.isRow(MOST_SOUNDS)) {
                return NONE;
            }
            int row = tape.row;
            int many = tape.letters;
            long kind = Tape.NO_NAME;
            tape.next();
            if (tape.kind == Tape.WORD) {
                kind = tape.name;
                tape.next();
            }
            if (tape.kind != Tape.END) {
                return NONE;
            }
            if (isNamed(name)) {
                return STATE;
            }
            return size >= MOST ? FULL : put(name, row, many, kind);
        }

        private boolean isNamed(long name) {
            for (int t = 0; t < size; t++) {
                if (names[t] == name) {
                    return true;
                }
            }
            return false;
        }

        private int put(long name, int row, int many, long kind) {
            names[size] = name;
            soundRows[size] = row;
            soundCounts[size] = many;
            kinds[size] = kind;
            size++;
            return size - 1;
        }
    }

    /**
     * Tells which rows are SPELLINGS of one TERM, by the values of one list.
     *
     * A row may be a COVER in several ways, so all ways go on together: a reading is the set of how
     * many ECHOES there may be so far, bit by bit, and MAY_ECHO if one may come next. The ROW is
     * covered up to the SOUNDS of all SIGNS so far (the sum) less the ECHOES.
     */
    private static final class Speller {
        static final int MOST = 100000;
        static final int START = 1;
        private static final int MAY_ECHO = 16;
        private static final int READINGS = 32;
        /** SOUNDS of a ROW with its ECHOES: 0 .. 11. */
        private static final int SUMS = 12;
        private static final int UNCOUNTED = -1;

        private final Terms terms;
        SignList signs;
        private int mostEchoes;
        private long name;
        private long kind;
        int row;
        int size;
        private final int[] coverCounts = new int[SUMS * READINGS];

        Speller(Terms terms, SignList list) {
            this.terms = terms;
            signs = list;
        }

        void look(SignList by, int t) {
            signs = by;
            mostEchoes = by.rules[SignList.ECHO];
            name = terms.names[t];
            kind = terms.kinds[t];
            row = terms.soundRows[t];
            size = terms.soundCounts[t];
        }

        boolean hasKind() {
            return kind != Tape.NO_NAME;
        }

        boolean isOfKind(int s) {
            return signs.kinds[s] == SignList.KIND && signs.meanings[s] == kind;
        }

        boolean isIdea(int s) {
            return signs.kinds[s] == SignList.IDEA && signs.meanings[s] == name;
        }

        boolean isTail(int s) {
            return covers(s, size - signs.soundCounts[s]);
        }

        boolean covers(int s, int place) {
            int many = signs.soundCounts[s];
            if (many < 1 || place < 0 || place + many > size) {
                return false;
            }
            return (row >>> (4 * place) & (1 << 4 * many) - 1) == signs.soundRows[s];
        }

        boolean echoes(int s, int place) {
            return signs.soundCounts[s] == 1 && place > 0
                    && soundAt(row, place - 1) == signs.soundRows[s];
        }

        int step(int reading, int sum, int s) {
            int next = 0;
            for (int e = 0; e <= mostEchoes; e++) {
                if ((reading >>> e & 1) == 0) {
                    continue;
                }
                if (covers(s, sum - e)) {
                    next |= 1 << e;
                }
                if (reading >= MAY_ECHO && e < mostEchoes && echoes(s, sum - e)) {
                    next |= 2 << e;
                }
            }
            return next != 0 && signs.soundCounts[s] > 1 ? next | MAY_ECHO : next;
        }

        boolean isCover(int reading, int sum) {
            int e = sum - size;
            return e >= 0 && e <= mostEchoes && (reading >>> e & 1) == 1;
        }

        // ---- rows that are given

        /** Where SPELLINGS end that begin at the place: a set, bit by bit. */
        int endsFrom(int[] given, int length, int from) {
            int bodies = coverEnds(given, length, from);
            if (from < length && isIdea(given[from])) {
                bodies |= 1 << (from + 1);
                if (from + 1 < length && isTail(given[from + 1])) {
                    bodies |= 1 << (from + 2);
                }
            }
            return hasKind() ? endsOfKind(given, length, bodies) : bodies;
        }

        int endsFromAny(int[] given, int length, int starts) {
            int ends = 0;
            for (int at = 0; at < length; at++) {
                if ((starts >>> at & 1) == 1) {
                    ends |= endsFrom(given, length, at);
                }
            }
            return ends;
        }

        private int coverEnds(int[] given, int length, int from) {
            int ends = 0;
            int reading = START;
            int sum = 0;
            for (int at = from; at < length && reading != 0; at++) {
                reading = step(reading, sum, given[at]);
                sum += signs.soundCounts[given[at]];
                if (isCover(reading, sum)) {
                    ends |= 1 << (at + 1);
                }
            }
            return ends;
        }

        private int endsOfKind(int[] given, int length, int bodies) {
            int ends = 0;
            for (int at = 1; at < length; at++) {
                if ((bodies >>> at & 1) == 1 && isOfKind(given[at])) {
                    ends |= 1 << (at + 1);
                }
            }
            return ends;
        }

        // ---- all rows there are

        /** How many SPELLINGS; a number above MOST stands for all beyond it. */
        int countAll() {
            int ideas = 0;
            int tails = 0;
            int ofKind = 0;
            for (int s = 0; s < signs.size; s++) {
                ideas += isIdea(s) ? 1 : 0;
                tails += isTail(s) ? 1 : 0;
                ofKind += isOfKind(s) ? 1 : 0;
            }
            forgetCovers();
            int bodies = ideas * (1 + tails) + coversBehind(START, 0, 0);
            return Math.min(MOST + 1, bodies * (hasKind() ? ofKind : 1));
        }

        void forgetCovers() {
            Arrays.fill(coverCounts, UNCOUNTED);
        }

        /** In how many ways SIGNS go on to a COVER; kept until forgetCovers(). */
        private int coversBehind(int reading, int sum, int depth) {
            if (reading <= 0 || reading >= READINGS || sum < 0 || sum >= SUMS || depth > SUMS) {
                return 0;
            }
            int key = sum * READINGS + reading;
            if (coverCounts[key] != UNCOUNTED) {
                return coverCounts[key];
            }
            int many = isCover(reading, sum) ? 1 : 0;
            for (int s = 0; s < signs.size; s++) {
                int next = step(reading, sum, s);
                if (next != 0) {
                    many += coversBehind(next, sum + signs.soundCounts[s], depth + 1);
                }
            }
            coverCounts[key] = Math.min(MOST + 1, many);
            return coverCounts[key];
        }
    }

    /** GROUPED rows. */
    private static final class Grouper {
        static final int SHAPES = 11;
        static final int NO_WAY = 1000;
        static final int[] SIGNS_OF = {1, 2, 2, 3, 3, 3, 3, 3, 3, 4, 4};
        /** 1: the SHAPE's parts stand over one another, and two SIGNS of one part beside; or not. */
        private static final int[] IS_OVER = {0, 0, 1, 0, 1, 0, 0, 1, 1, 0, 1};
        private static final int MOST_PARTS = 3;
        /** How many SIGNS the parts of each SHAPE have, three to each; 0: there is no such part. */
        private static final int[] PARTS = {
            1, 0, 0,
            1, 1, 0,
            1, 1, 0,
            1, 1, 1,
            1, 1, 1,
            1, 2, 0,
            2, 1, 0,
            1, 2, 0,
            2, 1, 0,
            2, 2, 0,
            2, 2, 0};

        private final SignList list;
        private final int[] fewest = new int[RowReader.MOST + 1];
        private final int[] sums = new int[RowReader.MOST + 1];
        private final int[] choices = new int[RowReader.MOST + 1];
        int blockCount;
        final int[] shapes = new int[RowReader.MOST];
        final int[] percents = new int[RowReader.MOST];

        Grouper(SignList list) {
            this.list = list;
        }

        void forget() {
            blockCount = 0;
        }

        int arrange(int[] row, int length) {
            fewest[length] = 0;
            sums[length] = 0;
            for (int at = length - 1; at >= 0; at--) {
                choose(row, length, at);
            }
            if (fewest[0] >= NO_WAY) {
                return NONE;
            }
            keepChoices(row, length);
            return blockCount;
        }

        private void choose(int[] row, int length, int at) {
            fewest[at] = NO_WAY;
            sums[at] = 0;
            for (int shape = 0; shape < SHAPES; shape++) {
                int next = at + SIGNS_OF[shape];
                if (next > length || fewest[next] >= NO_WAY) {
                    continue;
                }
                int edge = edgeIn(shape, row, at);
                if (!list.isLegible(edge)) {
                    continue;
                }
                int many = fewest[next] + 1;
                int sum = sums[next] + list.percentOf(edge);
                // one that is just as good stays behind: SHAPES come from the least on
                if (many < fewest[at] || many == fewest[at] && sum > sums[at]) {
                    fewest[at] = many;
                    sums[at] = sum;
                    choices[at] = shape;
                }
            }
        }

        private void keepChoices(int[] row, int length) {
            blockCount = 0;
            int at = 0;
            for (int i = 0; i < length && at < length; i++) {
                int shape = choices[at];
                shapes[i] = shape;
                percents[i] = list.percentOf(edgeIn(shape, row, at));
                blockCount++;
                at += SIGNS_OF[shape];
            }
        }

        /** The greater of width and height that SIGNS from the place on have in a SHAPE. */
        int edgeIn(int shape, int[] row, int at) {
            int[] alongs = IS_OVER[shape] == 1 ? list.heights : list.widths;
            int[] acrosses = IS_OVER[shape] == 1 ? list.widths : list.heights;
            int gap = list.rules[SignList.GAP];
            int along = -gap;
            int greatest = 0;
            int next = at;
            for (int p = 0; p < MOST_PARTS; p++) {
                int many = PARTS[shape * MOST_PARTS + p];
                if (many == 0 || next + many > row.length) {
                    break;
                }
                int partAlong = alongs[row[next]];
                int partAcross = acrosses[row[next]];
                if (many == 2) {
                    partAlong = Math.max(partAlong, alongs[row[next + 1]]);
                    partAcross += gap + acrosses[row[next + 1]];
                }
                along += gap + partAlong;
                greatest = Math.max(greatest, partAcross);
                next += many;
            }
            return Math.max(along, greatest);
        }
    }

    /** Chooses among the SPELLINGS of each TERM; what it found stays until another LIST comes. */
    private static final class Chooser {
        static final int MOST_SIGNS = 12;
        private static final int NO_COST = Integer.MAX_VALUE;
        private static final int MOST_TO_FILL = 500;
        private static final int SLOTS = MOST_SIGNS + 1;
        /** A cost is PAINT times this, and the number of SIGNS: the lesser cost is the better. */
        private static final int PAINT = 16;
        private static final int COUNTED = 1;
        private static final int BEST = 2;
        private static final int SETTLED = 4;

        private final SignList list;
        private final Speller speller;
        private final Grouper grouper;
        /** What is known of a TERM: COUNTED, BEST, SETTLED. */
        private final int[] known = new int[Terms.MOST];
        private final int[] counts = new int[Terms.MOST];
        private final int[] bestCosts = new int[Terms.MOST];
        private final long[] bestRows = new long[Terms.MOST];
        /** Of each TERM the best SPELLING with no BLOCK, one, two ... */
        private final int[] slotCosts = new int[Terms.MOST * SLOTS];
        private final long[] slotRows = new long[Terms.MOST * SLOTS];
        /** The best SIGNS up to a place of the ROW; or the trial's SIGNS up to a place of it. */
        private final int[] costs = new int[MOST_SIGNS + 1];
        private final long[] rows = new long[MOST_SIGNS + 1];
        private final int[] trial = new int[MOST_SIGNS];
        private final int[] trialBlocks = new int[MOST_SIGNS + 1];
        private int firstSlot;

        Chooser(SignList list, Speller speller, Grouper grouper) {
            this.list = list;
            this.speller = speller;
            this.grouper = grouper;
        }

        void forget() {
            Arrays.fill(known, 0);
        }

        private boolean isNew(int t, int what) {
            boolean unknown = (known[t] & what) == 0;
            known[t] |= what;
            return unknown;
        }

        private int costOf(int s) {
            return list.paintOf(s) * PAINT + 1;
        }

        int spellingsOf(int t) {
            if (isNew(t, COUNTED)) {
                speller.look(list, t);
                counts[t] = speller.countAll();
            }
            return counts[t];
        }

        // ---- the best of all

        int bestPaint(int t) {
            findBest(t);
            return bestCosts[t] == NO_COST ? NONE : bestCosts[t] / PAINT;
        }

        int bestSignAt(int t, int i) {
            findBest(t);
            return bestCosts[t] == NO_COST ? NONE : signOf(bestRows[t], bestCosts[t] % PAINT, i);
        }

        /** No TAIL and no ECHO is in the best one: without it the PAINT is less. */
        private void findBest(int t) {
            if (!isNew(t, BEST)) {
                return;
            }
            speller.look(list, t);
            Arrays.fill(costs, NO_COST);
            costs[0] = 0;
            rows[0] = 0;
            int whole = speller.size;
            for (int place = 0; place < whole; place++) {
                coverFrom(place);
            }
            for (int s = 0; s < list.size; s++) {
                if (speller.isIdea(s)) {
                    improve(whole, costOf(s), s);
                }
            }
            if (speller.hasKind()) {
                for (int s = 0; s < list.size; s++) {
                    if (speller.isOfKind(s)) {
                        improveBy(s, whole, whole + 1);
                    }
                }
                whole++;
            }
            bestCosts[t] = costs[whole];
            bestRows[t] = rows[whole];
        }

        private void coverFrom(int place) {
            for (int s = 0; s < list.size; s++) {
                if (speller.covers(s, place)) {
                    improveBy(s, place, place + list.soundCounts[s]);
                }
            }
        }

        private void improveBy(int s, int from, int to) {
            if (costs[from] != NO_COST) {
                improve(to, costs[from] + costOf(s), withSign(rows[from], s));
            }
        }

        private void improve(int place, int cost, long row) {
            if (cost < costs[place] || cost == costs[place] && row < rows[place]) {
                costs[place] = cost;
                rows[place] = row;
            }
        }

        // ---- the best for each number of BLOCKS

        int slotPaint(int t, int blocks) {
            int cost = slotCosts[t * SLOTS + blocks];
            return cost == NO_COST ? NONE : cost / PAINT;
        }

        int slotLength(int t, int blocks) {
            return slotCosts[t * SLOTS + blocks] % PAINT;
        }

        long slotRow(int t, int blocks) {
            return slotRows[t * SLOTS + blocks];
        }

        /** Settles TERMS; false when one of them has too many SPELLINGS to try all. */
        boolean settle(int[] said, int size) {
            for (int i = 0; i < size; i++) {
                int many = spellingsOf(said[i]);
                if (many > MOST_TO_FILL) {
                    return false;
                }
                if (isNew(said[i], SETTLED)) {
                    emptySlots(said[i]);
                    // without a SIGN of its KIND a TERM has none, and BODIES beyond all trying
                    if (many > 0) {
                        trySpellings(said[i]);
                    }
                }
            }
            return true;
        }

        private void emptySlots(int t) {
            firstSlot = t * SLOTS;
            for (int i = 0; i < SLOTS; i++) {
                slotCosts[firstSlot + i] = NO_COST;
            }
        }

        private void trySpellings(int t) {
            costs[0] = 0;
            rows[0] = 0;
            trialBlocks[0] = 0;
            speller.look(list, t);
            speller.forgetCovers();
            tryIdeas();
            tryCovers(Speller.START, 0, 0);
        }

        private void tryIdeas() {
            for (int s = 0; s < list.size; s++) {
                if (!speller.isIdea(s)) {
                    continue;
                }
                putTrial(0, s);
                tryBody(1);
                for (int tail = 0; tail < list.size; tail++) {
                    if (speller.isTail(tail)) {
                        putTrial(1, tail);
                        tryBody(2);
                    }
                }
            }
        }

        private void tryCovers(int reading, int sum, int length) {
            if (speller.isCover(reading, sum)) {
                tryBody(length);
            }
            for (int s = 0; s < list.size && length < MOST_SIGNS; s++) {
                int next = speller.step(reading, sum, s);
                int nextSum = sum + list.soundCounts[s];
                if (next != 0 && speller.coversBehind(next, nextSum, length + 1) > 0) {
                    putTrial(length, s);
                    tryCovers(next, nextSum, length + 1);
                }
            }
        }

        private void tryBody(int length) {
            if (!speller.hasKind()) {
                keepTrial(length);
                return;
            }
            for (int s = 0; s < list.size && length < MOST_SIGNS; s++) {
                if (speller.isOfKind(s)) {
                    putTrial(length, s);
                    keepTrial(length + 1);
                }
            }
        }

        private void putTrial(int at, int s) {
            trial[at] = s;
            costs[at + 1] = costs[at] + costOf(s);
            rows[at + 1] = withSign(rows[at], s);
            int fewest = Grouper.NO_WAY;
            for (int shape = 0; shape < Grouper.SHAPES; shape++) {
                int from = at + 1 - Grouper.SIGNS_OF[shape];
                if (from >= 0 && trialBlocks[from] + 1 < fewest
                        && list.isLegible(grouper.edgeIn(shape, trial, from))) {
                    fewest = trialBlocks[from] + 1;
                }
            }
            trialBlocks[at + 1] = fewest;
        }

        private void keepTrial(int length) {
            int blocks = trialBlocks[length];
            if (blocks >= SLOTS) {
                return;
            }
            int at = firstSlot + blocks;
            int cost = costs[length];
            if (cost < slotCosts[at] || cost == slotCosts[at] && rows[length] < slotRows[at]) {
                slotCosts[at] = cost;
                slotRows[at] = rows[length];
            }
        }
    }

    /** The row that is WRITTEN, and how it is READ. Sets of places in it are ints, bit by bit. */
    private static final class RowReader {
        static final int MOST = 24;
        private static final int MOST_WAYS = 1000000000;
        private static final int NO_WAY = 1000;

        private final SignList list;
        private final Terms terms;
        private final Speller speller;
        final int[] row = new int[MOST];
        int size;
        private final int[] draft = new int[MOST];
        private final long[] ways = new long[MOST + 1];
        /** Where each TERM's SPELLINGS end that begin at a place. */
        private final int[] ends = new int[Terms.MOST * MOST];
        private final int[] fewest = new int[MOST + 1];
        /** The places from which so many TERMS are the fewest to the end. */
        private final int[] layers = new int[MOST + 1];
        private final int[] backs = new int[MOST + 1];
        int termsRead;
        final int[] readTerms = new int[MOST];
        final int[] readLengths = new int[MOST];

        RowReader(SignList list, Terms terms, Speller speller) {
            this.list = list;
            this.terms = terms;
            this.speller = speller;
        }

        void forget() {
            size = 0;
            termsRead = 0;
        }

        int take(Tape tape) {
            for (int many = 0; many <= MOST; many++) {
                tape.next();
                if (tape.kind == Tape.END) {
                    return many == 0 ? NONE : keepDraft(many);
                }
                int s = tape.kind == Tape.WORD ? list.find(tape.name) : NONE;
                if (s < 0 || many >= MOST) {
                    return NONE;
                }
                draft[many] = s;
            }
            return NONE;
        }

        private int keepDraft(int many) {
            System.arraycopy(draft, 0, row, 0, many);
            size = many;
            termsRead = 0;
            return many;
        }

        boolean isSpellingOf(int t) {
            speller.look(list, t);
            return (speller.endsFrom(row, size, 0) >>> size & 1) == 1;
        }

        int countWays(SignList by) {
            ways[size] = 1;
            for (int at = size - 1; at >= 0; at--) {
                long many = 0;
                for (int t = 0; t < terms.size; t++) {
                    speller.look(by, t);
                    many += waysBehind(speller.endsFrom(row, size, at), at);
                }
                ways[at] = Math.min(many, MOST_WAYS + 1L);
            }
            return ways[0] > MOST_WAYS ? FULL : (int) ways[0];
        }

        private long waysBehind(int endsHere, int at) {
            long many = 0;
            for (int end = at + 1; end <= size; end++) {
                if ((endsHere >>> end & 1) == 1) {
                    many += ways[end];
                }
            }
            return many;
        }

        int findFirstWay() {
            findEnds();
            findFewest();
            if (fewest[0] >= NO_WAY) {
                return NONE;
            }
            termsRead = fewest[0];
            chooseTerms();
            chooseLengths();
            return termsRead;
        }

        private void findEnds() {
            for (int t = 0; t < terms.size; t++) {
                speller.look(list, t);
                for (int at = 0; at < size; at++) {
                    ends[t * MOST + at] = speller.endsFrom(row, size, at);
                }
            }
        }

        private void findFewest() {
            Arrays.fill(layers, 0);
            fewest[size] = 0;
            layers[0] = 1 << size;
            for (int at = size - 1; at >= 0; at--) {
                int endsHere = 0;
                for (int t = 0; t < terms.size; t++) {
                    endsHere |= ends[t * MOST + at];
                }
                fewest[at] = NO_WAY;
                for (int end = at + 1; end <= size; end++) {
                    if ((endsHere >>> end & 1) == 1 && fewest[end] + 1 < fewest[at]) {
                        fewest[at] = fewest[end] + 1;
                    }
                }
                if (fewest[at] <= size) {
                    layers[fewest[at]] |= 1 << at;
                }
            }
        }

        /** The least row of TERMS may begin with pieces of several lengths: all go on together. */
        private void chooseTerms() {
            int places = 1;
            for (int i = 0; i < termsRead; i++) {
                int behind = layers[termsRead - i - 1];
                int next = 0;
                for (int t = 0; t < terms.size && next == 0; t++) {
                    next = endsFromAny(t, places) & behind;
                    readTerms[i] = t;
                }
                places = next;
            }
        }

        private int endsFromAny(int t, int places) {
            int all = 0;
            for (int at = 0; at < size; at++) {
                if ((places >>> at & 1) == 1) {
                    all |= ends[t * MOST + at];
                }
            }
            return all;
        }

        private void chooseLengths() {
            backs[termsRead] = 1 << size;
            for (int i = termsRead - 1; i >= 0; i--) {
                backs[i] = 0;
                for (int at = 0; at < size; at++) {
                    if ((ends[readTerms[i] * MOST + at] & backs[i + 1]) != 0) {
                        backs[i] |= 1 << at;
                    }
                }
            }
            int at = 0;
            for (int i = 0; i < termsRead && at < size; i++) {
                int end = at + 1;
                int good = ends[readTerms[i] * MOST + at] & backs[i + 1];
                while (end < size && (good >>> end & 1) == 0) {
                    end++;
                }
                readLengths[i] = end - at;
                at = end;
            }
        }
    }

    /** The PASSAGE, and how it is FILLED. */
    private static final class Passage {
        static final int MOST = 12;
        static final int MOST_SQUARES = 144;
        private static final int COLUMNS = MOST_SQUARES + 1;
        private static final int NO_PAINT = Integer.MAX_VALUE;

        private final Chooser chooser;
        final int[] said = new int[MOST];
        int size;
        /** The least PAINT of the TERMS from one on, with so many squares. */
        private final int[] least = new int[(MOST + 1) * COLUMNS];
        private boolean planned;
        int filledTerms;
        final int[] filledBlocks = new int[MOST];
        final int[] filledLengths = new int[MOST];
        final long[] filledRows = new long[MOST];

        Passage(Chooser chooser) {
            this.chooser = chooser;
        }

        void forgetFilled() {
            filledTerms = 0;
            planned = false;
        }

        boolean put(int t) {
            if (size >= MOST) {
                return false;
            }
            said[size] = t;
            size++;
            forgetFilled();
            return true;
        }

        private void plan() {
            if (planned) {
                return;
            }
            for (int n = 0; n < COLUMNS; n++) {
                least[size * COLUMNS + n] = n == 0 ? 0 : NO_PAINT;
            }
            for (int i = size - 1; i >= 0; i--) {
                for (int n = 0; n < COLUMNS; n++) {
                    least[i * COLUMNS + n] = leastFrom(i, n);
                }
            }
            planned = true;
        }

        private int leastFrom(int i, int n) {
            int found = NO_PAINT;
            for (int blocks = 1; blocks <= Chooser.MOST_SIGNS && blocks <= n; blocks++) {
                found = Math.min(found, paintWith(i, n, blocks));
            }
            return found;
        }

        private int paintWith(int i, int n, int blocks) {
            int own = chooser.slotPaint(said[i], blocks);
            int behind = least[(i + 1) * COLUMNS + n - blocks];
            return own == NONE || behind == NO_PAINT ? NO_PAINT : own + behind;
        }

        int countFills() {
            plan();
            int many = 0;
            for (int n = 1; n < COLUMNS; n++) {
                many += least[n] == NO_PAINT ? 0 : 1;
            }
            return many;
        }

        int fillWith(int n) {
            plan();
            if (least[n] == NO_PAINT) {
                return NONE;
            }
            int left = n;
            for (int i = 0; i < size; i++) {
                int blocks = 1;
                while (blocks < Chooser.MOST_SIGNS && blocks < left
                        && paintWith(i, left, blocks) != least[i * COLUMNS + left]) {
                    blocks++;
                }
                filledBlocks[i] = blocks;
                filledLengths[i] = chooser.slotLength(said[i], blocks);
                filledRows[i] = chooser.slotRow(said[i], blocks);
                left -= blocks;
            }
            filledTerms = size;
            return least[n];
        }
    }

    /** VALUES as they were told, one behind the other. */
    private static final class ValueBook {
        static final int MOST = 60;

        int size;
        int latest;
        private final int[] signs = new int[MOST];
        private final int[] firstDays = new int[MOST];
        private final int[] toldOn = new int[MOST];
        final int[] soundRows = new int[MOST];
        final int[] soundCounts = new int[MOST];

        void forget() {
            size = 0;
            latest = 0;
        }

        void put(int s, int from, int day) {
            if (size >= MOST) {
                return;
            }
            signs[size] = s;
            firstDays[size] = from;
            toldOn[size] = day;
            latest = day;
            size++;
        }

        /** The SOUNDS of the VALUE that was put last. */
        void putSounds(int row, int many) {
            if (size > 0) {
                soundRows[size - 1] = row;
                soundCounts[size - 1] = many;
            }
        }

        int latestFor(int s, int day, int known) {
            int found = NONE;
            for (int v = 0; v < size; v++) {
                boolean holds = signs[v] == s && toldOn[v] <= known && firstDays[v] <= day;
                if (holds && (found < 0 || firstDays[v] >= firstDays[found])) {
                    found = v;
                }
            }
            return found;
        }

        void applyTo(SignList list, int day, int known) {
            for (int s = 0; s < list.size; s++) {
                int v = latestFor(s, day, known);
                if (v >= 0) {
                    list.putSounds(s, soundRows[v], soundCounts[v]);
                }
            }
        }
    }
}
