/**
 * Sets of whole numbers that hold all sums of their own. What each call answers
 * stands in the document, under the promise of the same name.
 */
public final class StepSums {
    public static final int NONE = -1;

    /** What is told where the question is a fair one, but nothing answers it. */
    private static final int NOTHING = -2;
    private static final int SLOTS = 3;
    private static final int GREATEST_ASKED = 9999;
    private static final int GREATEST_REST = 200;
    private static final int GREATEST_SUM = 150;
    private static final int GREATEST_PARTED = 900;

    private final Tape tape;
    private final Reader reader;
    private final Maker maker;
    private final Deeds deeds;
    private final Hall[] slots;
    private final boolean[] held;
    private final Walks walks;
    private final Knots knots;
    private final Small small;
    private final Cover cover;
    private Hall hall;
    private Hall spare;
    private int faultPlace;

    public StepSums() {
        tape = new Tape();
        reader = new Reader();
        maker = new Maker();
        deeds = new Deeds();
        slots = new Hall[SLOTS];
        held = new boolean[SLOTS];
        for (int i = 0; i < SLOTS; i++) {
            slots[i] = new Hall();
        }
        walks = new Walks();
        knots = new Knots();
        small = new Small();
        cover = new Cover();
        hall = new Hall();
        spare = new Hall();
        faultPlace = NONE;
    }

    public int feed(int a, int b, int c, int d, int e) {
        if (tape.room() < 20) {
            return NONE;
        }
        tape.putFour(a);
        tape.putFour(b);
        tape.putFour(c);
        tape.putFour(d);
        tape.putFour(e);
        return tape.size();
    }

    public int back(int n) {
        if (n < 0 || n > tape.size()) {
            return NONE;
        }
        tape.shorten(tape.size() - n);
        return tape.size();
    }

    public int read() {
        int fault = reader.parse(tape);
        faultPlace = reader.faultPlace();
        tape.shorten(0);
        if (fault == 0) {
            fault = maker.make(reader, spare);
            faultPlace = maker.faultPlace();
        }
        if (fault == 0) {
            takeOverSpare();
        }
        return fault;
    }

    /** The two halls change places, so that a text with a fault leaves the old one as it was. */
    private void takeOverSpare() {
        Hall old = hall;
        hall = spare;
        spare = old;
        deeds.forgetAll();
        for (int i = 0; i < SLOTS; i++) {
            held[i] = false;
        }
    }

    public int place() {
        return faultPlace;
    }

    public boolean add(int set, int x) {
        StepSet s = hall.at(set);
        if (s == null || !s.isSpecial(x)) {
            return false;
        }
        return doByHand(s, set, x);
    }

    public boolean drop(int set, int x) {
        StepSet s = hall.at(set);
        if (s == null || !s.isGenerator(x)) {
            return false;
        }
        return doByHand(s, set, x);
    }

    private boolean doByHand(StepSet s, int set, int x) {
        if (!s.flip(x)) {
            return false;
        }
        deeds.note(set, x);
        return true;
    }

    public boolean undo() {
        if (deeds.size() == 0) {
            return false;
        }
        StepSet s = hall.at(deeds.lastSet());
        if (s == null || !s.flip(deeds.lastNumber())) {
            return false;
        }
        deeds.forgetLast();
        return true;
    }

    public int has(int set, int x) {
        StepSet s = hall.at(set);
        if (s == null || x < 0 || x > GREATEST_ASKED) {
            return NONE;
        }
        return asBit(s.holds(x));
    }

    public int gap(int set, int i) {
        StepSet s = hall.at(set);
        return s == null ? NONE : pick(s.gaps, s.genus, i);
    }

    public int generator(int set, int i) {
        StepSet s = hall.at(set);
        return s == null ? NONE : pick(s.generators, s.generatorCount, i);
    }

    /** How many there are in a row (i NONE), or the i-th of them. */
    private static int pick(int[] row, int size, int i) {
        if (i == NONE) {
            return size;
        }
        return i >= 0 && i < size && i < row.length ? row[i] : NONE;
    }

    private static int asBit(boolean so) {
        return so ? 1 : 0;
    }

    public int apery(int set, int n, int r) {
        StepSet s = hall.at(set);
        if (s == null || n < 1 || n > GREATEST_REST || !s.holds(n) || r < 0 || r >= n) {
            return NONE;
        }
        return s.leastOfRest(n, r);
    }

    public int stiff(int set, int i) {
        StepSet s = hall.at(set);
        return s == null ? NONE : s.stiffAt(i, false);
    }

    public int special(int set, int i) {
        StepSet s = hall.at(set);
        return s == null ? NONE : s.stiffAt(i, true);
    }

    public int about(int set, int what) {
        StepSet s = hall.at(set);
        if (s == null) {
            return Integer.MIN_VALUE;
        }
        switch (what) {
            case 0:
                return s.top;
            case 1:
                return s.conductor();
            case 2:
                return asBit(StepSet.symmetrical(s.top, s.genus));
            case 3:
                return asBit(StepSet.nearlySymmetrical(s.top, s.genus));
            case 4:
                return s.generatorCount * s.countBelowConductor() - s.conductor();
            case 5:
                return s.countBelowConductor();
            case 6:
                return knots.rulesOf(s);
            case 7:
                return s.weight();
            default:
                return Integer.MIN_VALUE;
        }
    }

    public int ways(int set, int x) {
        StepSet s = hall.at(set);
        return s == null || !isSum(x) ? NONE : walks.number(s, x);
    }

    private static boolean isSum(int x) {
        return x >= 0 && x <= GREATEST_SUM;
    }

    public int way(int set, int x, int i, int k) {
        StepSet s = hall.at(set);
        if (s == null || !isSum(x) || k < 0 || k >= s.generatorCount) {
            return NONE;
        }
        return walks.taken(s, x, i, k);
    }

    public int length(int set, int x, int what) {
        StepSet s = hall.at(set);
        if (s == null || !isSum(x) || what < 0 || what > 3) {
            return NONE;
        }
        return walks.measure(s, x, what);
    }

    public int parts(int set, int x) {
        StepSet s = hall.at(set);
        return s == null || x < 0 || x > GREATEST_PARTED ? NONE : Knots.partsOf(s, x);
    }

    public int tie(int set, int i) {
        StepSet s = hall.at(set);
        return s == null ? NONE : knots.tieAt(s, i);
    }

    public int chain(int set, int x) {
        StepSet s = hall.at(set);
        return s == null || !isSum(x) ? NONE : walks.longestNeeded(s, x);
    }

    public int greedy(int set, int x, int what) {
        StepSet s = hall.at(set);
        if (s == null || !isSum(x) || what < 0 || what > 2) {
            return NONE;
        }
        return walks.grab(s, x, what);
    }

    public int blunder(int set) {
        StepSet s = hall.at(set);
        return s == null ? NONE : walks.firstBlunder(s);
    }

    public int kunz(int set, int r) {
        StepSet s = hall.at(set);
        if (s == null || r < 1 || r >= s.leastGenerator()) {
            return NONE;
        }
        return s.leastOfRest(s.leastGenerator(), r) / s.leastGenerator();
    }

    public int child(int set, int i) {
        StepSet s = hall.at(set);
        return s == null ? NONE : s.childAt(i);
    }

    public int below(int set, int n) {
        StepSet s = hall.at(set);
        if (s == null) {
            return NONE;
        }
        switch (n) {
            case 0:
                return 1;
            case 1:
                return s.childAt(NONE);
            case 2:
                return s.grandchildren();
            default:
                return NONE;
        }
    }

    public int meeting(int set, int other, int what) {
        StepSet a = hall.at(set);
        StepSet b = hall.at(other);
        if (a == null || b == null) {
            return NONE;
        }
        int common = StepSet.commonGaps(a, b);
        switch (what) {
            case 0:
                return common;
            case 1:
                return a.genus - common;
            case 2:
                return b.genus - common;
            default:
                return NONE;
        }
    }

    public int list(int genus, int i, int k) {
        if (genus < 0 || genus > Small.GREATEST_GENUS) {
            return NONE;
        }
        int size = small.sizeOf(genus);
        if (i == NONE) {
            return size;
        }
        if (i < 0 || i >= size) {
            return NONE;
        }
        return Small.stepAt(small.maskAt(genus, i), k);
    }

    public int listed(int set) {
        StepSet s = hall.at(set);
        if (s == null) {
            return NONE;
        }
        return s.genus > Small.GREATEST_GENUS ? NOTHING : small.indexOf(s);
    }

    public int above(int set) {
        StepSet s = hall.at(set);
        if (s == null) {
            return NONE;
        }
        return s.genus > Small.GREATEST_GENUS ? NOTHING : cover.size(s);
    }

    public int piece(int set, int i) {
        StepSet s = hall.at(set);
        if (s == null) {
            return NONE;
        }
        return s.genus > Small.GREATEST_GENUS ? NOTHING : cover.pieceAt(s, i);
    }

    public int good(int set, int i) {
        StepSet s = hall.at(set);
        if (s == null) {
            return NONE;
        }
        return s.genus > Small.GREATEST_GENUS ? NOTHING : cover.winningGapAt(s, i);
    }

    public int same(int set, int other) {
        StepSet a = hall.at(set);
        StepSet b = hall.at(other);
        if (a == null || b == null) {
            return NONE;
        }
        boolean firstHasAll = a.hasAllOf(b);
        boolean otherHasAll = b.hasAllOf(a);
        if (firstHasAll && otherHasAll) {
            return 1;
        }
        if (firstHasAll) {
            return 2;
        }
        return otherHasAll ? 3 : 0;
    }

    public boolean hold(int slot) {
        if (slot < 0 || slot >= SLOTS) {
            return false;
        }
        slots[slot].copyFrom(hall);
        held[slot] = true;
        return true;
    }

    public boolean restore(int slot) {
        if (slot < 0 || slot >= SLOTS || !held[slot]) {
            return false;
        }
        hall.copyFrom(slots[slot]);
        deeds.forgetAll();
        return true;
    }

    public int count(int what) {
        switch (what) {
            case 0:
                return hall.size;
            case 1:
                return hall.gapsOfEach();
            case 2:
                return tape.size();
            case 3:
                return deeds.size();
            case 4:
                return slotsHeld();
            case 5:
                return hall.loneBits();
            case 6:
                return hall.greatestTop();
            case 7:
                return hall.gapsOfAll();
            default:
                return NONE;
        }
    }

    private int slotsHeld() {
        int found = 0;
        for (int i = 0; i < SLOTS; i++) {
            found += asBit(held[i]);
        }
        return found;
    }

    /** The bytes that wait to be read. */
    static final class Tape {
        private static final int MOST = 2000;

        private final byte[] bytes;
        private int size;

        Tape() {
            bytes = new byte[MOST];
        }

        int size() {
            return size;
        }

        int room() {
            return MOST - size;
        }

        void putFour(int four) {
            for (int shift = 24; shift >= 0 && size < MOST; shift -= 8) {
                bytes[size] = (byte) (four >> shift);
                size++;
            }
        }

        void shorten(int left) {
            if (left >= 0 && left <= size) {
                size = left;
            }
        }

        /** The byte at a place, 0 to 255; NONE where the tape has none. */
        int byteAt(int at) {
            return at >= 0 && at < size ? bytes[at] & 255 : NONE;
        }
    }

    /** One line of a text: its word, names and numbers, each with its place. */
    static final class Line {
        static final int MOST_NAMES = 3;
        static final int MOST_INTS = 10;

        final long[] names;
        final int[] namePlaces;
        final int[] ints;
        final int[] intPlaces;
        int word;
        int nameCount;
        int intCount;
        int endPlace;

        Line() {
            names = new long[MOST_NAMES];
            namePlaces = new int[MOST_NAMES];
            ints = new int[MOST_INTS];
            intPlaces = new int[MOST_INTS];
        }

        void begin(int firstWord) {
            word = firstWord;
            nameCount = 0;
            intCount = 0;
            endPlace = 0;
        }

        void putName(long name, int at) {
            if (nameCount < MOST_NAMES) {
                names[nameCount] = name;
                namePlaces[nameCount] = at;
                nameCount++;
            }
        }

        void putInt(int value, int at) {
            if (intCount < MOST_INTS) {
                ints[intCount] = value;
                intPlaces[intCount] = at;
                intCount++;
            }
        }
    }

    /** Cuts the tape into tokens and lines; knows the faults SYNTAX and ROOM. */
    static final class Reader {
        static final int MOST_LINES = 6;
        static final int OF = 1;
        static final int SUM = 2;
        static final int MEET = 3;
        static final int ARF = 4;
        static final int PART = 5;
        static final int ADD = 6;
        static final int DROP = 7;

        private static final int SYNTAX = 1;
        private static final int ROOM = 2;

        private static final int END = 0;
        private static final int NAME = 1;
        private static final int WORD = 2;
        private static final int INT = 3;
        private static final int SIGN = 4;
        private static final int OTHER = 5;

        private static final int MOST_LETTERS = 8;
        private static final int MOST_DIGITS = 4;

        /** The words as letters are gathered: each letter in eight bits, the last one lowest. */
        private static final long[] WORDS = {
            0,
            'o' << 8 | 'f',
            's' << 16 | 'u' << 8 | 'm',
            'm' << 24 | 'e' << 16 | 'e' << 8 | 't',
            'a' << 16 | 'r' << 8 | 'f',
            'p' << 24 | 'a' << 16 | 'r' << 8 | 't',
            'a' << 16 | 'd' << 8 | 'd',
            'd' << 24 | 'r' << 16 | 'o' << 8 | 'p',
        };
        private static final int[] NAMES_DUE = {0, 1, 3, 3, 2, 2, 2, 2};
        private static final int[] INTS_LEAST = {0, 1, 0, 0, 0, 1, 1, 1};
        private static final int[] INTS_MOST = {0, 10, 0, 0, 0, 1, 1, 1};

        final Line[] lines;
        int lineCount;
        private Tape tape;
        private int at;
        private int faultPlace;
        private int kind;
        private int tokenPlace;
        private int word;
        private int number;
        private long letters;

        Reader() {
            lines = new Line[MOST_LINES];
            for (int i = 0; i < MOST_LINES; i++) {
                lines[i] = new Line();
            }
            faultPlace = NONE;
        }

        int faultPlace() {
            return faultPlace;
        }

        /** 0, or the fault of the tape's text, SYNTAX or ROOM, that stands first. */
        int parse(Tape from) {
            tape = from;
            at = 0;
            lineCount = 0;
            faultPlace = NONE;
            nextToken();
            int fault = parseLines();
            if (fault != 0) {
                faultPlace = tokenPlace;
            }
            return fault;
        }

        private int parseLines() {
            for (int i = 0; i < MOST_LINES; i++) {
                if (kind == END) {
                    return 0;
                }
                int fault = parseLine(lines[i]);
                if (fault != 0) {
                    return fault;
                }
                lineCount++;
            }
            if (kind == END) {
                return 0;
            }
            return kind == WORD ? ROOM : SYNTAX;
        }

        private int parseLine(Line line) {
            if (kind != WORD) {
                return SYNTAX;
            }
            int first = word;
            line.begin(first);
            nextToken();
            for (int i = 0; i < NAMES_DUE[first]; i++) {
                if (kind != NAME) {
                    return SYNTAX;
                }
                line.putName(letters, tokenPlace);
                nextToken();
            }
            int ints = 0;
            for (; ints < INTS_MOST[first] && kind == INT; ints++) {
                line.putInt(number, tokenPlace);
                nextToken();
            }
            if (first == OF && kind == INT) {
                return ROOM;
            }
            if (ints < INTS_LEAST[first] || kind != SIGN) {
                return SYNTAX;
            }
            line.endPlace = tokenPlace;
            nextToken();
            return 0;
        }

        private void nextToken() {
            while (at < tape.size() && isBlank(tape.byteAt(at))) {
                at++;
            }
            tokenPlace = at;
            int first = tape.byteAt(at);
            if (first == NONE) {
                kind = END;
            } else if (isLetter(first)) {
                takeLetters();
            } else if (isDigit(first)) {
                takeDigits();
            } else {
                kind = first == ';' ? SIGN : OTHER;
                at++;
            }
        }

        private void takeLetters() {
            letters = 0;
            for (; at < tape.size() && isLetter(tape.byteAt(at)); at++) {
                letters = letters << 8 | tape.byteAt(at);
            }
            word = wordOf(letters);
            if (at - tokenPlace > MOST_LETTERS) {
                kind = OTHER;
            } else {
                kind = word == 0 ? NAME : WORD;
            }
        }

        private void takeDigits() {
            number = 0;
            for (; at < tape.size() && isDigit(tape.byteAt(at)); at++) {
                number = number * 10 + tape.byteAt(at) - '0';
            }
            kind = at - tokenPlace > MOST_DIGITS ? OTHER : INT;
        }

        private static int wordOf(long gathered) {
            for (int i = 1; i < WORDS.length; i++) {
                if (WORDS[i] == gathered) {
                    return i;
                }
            }
            return 0;
        }

        private static boolean isBlank(int b) {
            return b == 9 || b == 10 || b == 13 || b == 32;
        }

        private static boolean isLetter(int b) {
            return b >= 'a' && b <= 'z';
        }

        private static boolean isDigit(int b) {
            return b >= '0' && b <= '9';
        }
    }

    /** Makes the SETS of a text's lines; knows the faults TWICE, NAME, WRONG and FAR. */
    static final class Maker {
        private static final int TWICE = 3;
        private static final int UNKNOWN = 4;
        private static final int WRONG = 5;
        private static final int FAR = 6;

        private static final int GREATEST_STEP = 15;
        private static final int GREATEST_PART = 9;

        private final int[] steps;
        private int faultPlace;

        Maker() {
            steps = new int[2 * StepSet.MOST_GENERATORS];
            faultPlace = NONE;
        }

        int faultPlace() {
            return faultPlace;
        }

        /** 0, and the hall has the SETS; or the first fault. */
        int make(Reader reader, Hall into) {
            faultPlace = NONE;
            into.size = 0;
            for (int i = 0; i < reader.lineCount && i < Reader.MOST_LINES; i++) {
                int fault = makeOne(reader.lines, i, into);
                if (fault != 0) {
                    return fault;
                }
                into.size++;
            }
            return 0;
        }

        private int makeOne(Line[] lines, int i, Hall into) {
            Line line = lines[i];
            if (ownerOf(line.names[0], lines, i) != NONE) {
                return faultAt(TWICE, line.namePlaces[0]);
            }
            for (int n = 1; n < line.nameCount; n++) {
                if (ownerOf(line.names[n], lines, i) == NONE) {
                    return faultAt(UNKNOWN, line.namePlaces[n]);
                }
            }
            StepSet first = line.nameCount < 2 ? null : into.at(ownerOf(line.names[1], lines, i));
            StepSet second = line.nameCount < 3 ? null : into.at(ownerOf(line.names[2], lines, i));
            for (int n = 0; n < line.intCount; n++) {
                if (!isRight(line.word, line.ints[n], first)) {
                    return faultAt(WRONG, line.intPlaces[n]);
                }
            }
            return build(line, into.sets[i], first, second) ? 0 : faultAt(FAR, line.endPlace);
        }

        private int faultAt(int fault, int where) {
            faultPlace = where;
            return fault;
        }

        /** Which of the first lines has this name for its own. */
        private static int ownerOf(long name, Line[] lines, int limit) {
            for (int i = 0; i < limit; i++) {
                if (lines[i].names[0] == name) {
                    return i;
                }
            }
            return NONE;
        }

        private static boolean isRight(int word, int x, StepSet of) {
            switch (word) {
                case Reader.OF:
                    return x >= 1 && x <= GREATEST_STEP;
                case Reader.PART:
                    return x >= 1 && x <= GREATEST_PART;
                case Reader.ADD:
                    return of != null && of.isSpecial(x);
                case Reader.DROP:
                    return of != null && of.isGenerator(x);
                default:
                    return true;
            }
        }

        private boolean build(Line line, StepSet made, StepSet first, StepSet second) {
            if (line.word == Reader.OF) {
                return made.becomeSums(line.ints, line.intCount);
            }
            if (first == null) {
                return false;
            }
            switch (line.word) {
                case Reader.SUM:
                    return second != null && made.becomeSums(steps, gatherSteps(first, second));
                case Reader.MEET:
                    return second != null && made.becomeMeet(first, second);
                case Reader.ARF:
                    return made.becomeArf(first);
                case Reader.PART:
                    return made.becomePart(first, line.ints[0]);
                default:
                    made.copyFrom(first);
                    return made.flip(line.ints[0]);
            }
        }

        /** The steps of both: what they make together is the sum of the two SETS. */
        private int gatherSteps(StepSet first, StepSet second) {
            System.arraycopy(first.generators, 0, steps, 0, first.generatorCount);
            System.arraycopy(second.generators, 0, steps, first.generatorCount, second.generatorCount);
            return first.generatorCount + second.generatorCount;
        }
    }

    /** The SETS that stand side by side. */
    static final class Hall {
        final StepSet[] sets;
        int size;

        Hall() {
            sets = new StepSet[Reader.MOST_LINES];
            for (int i = 0; i < sets.length; i++) {
                sets[i] = new StepSet();
            }
        }

        /** The SET of a number, null if there is none. */
        StepSet at(int set) {
            return set >= 0 && set < size && set < sets.length ? sets[set] : null;
        }

        void copyFrom(Hall other) {
            size = other.size;
            for (int i = 0; i < size && i < sets.length; i++) {
                sets[i].copyFrom(other.sets[i]);
            }
        }

        int gapsOfEach() {
            int sum = 0;
            for (int i = 0; i < size; i++) {
                sum += sets[i].genus;
            }
            return sum;
        }

        int loneBits() {
            int bits = 0;
            for (int i = 0; i < size; i++) {
                if (StepSet.isLone(sets[i].top, sets[i].genus)) {
                    bits |= 1 << i;
                }
            }
            return bits;
        }

        int greatestTop() {
            int greatest = NOTHING;
            for (int i = 0; i < size; i++) {
                greatest = Math.max(greatest, sets[i].top);
            }
            return greatest;
        }

        int gapsOfAll() {
            int found = 0;
            for (int x = 1; size > 0 && x <= sets[0].top; x++) {
                int lacking = 0;
                for (int i = 0; i < size; i++) {
                    lacking += sets[i].holds(x) ? 0 : 1;
                }
                found += lacking == size ? 1 : 0;
            }
            return found;
        }
    }

    /** The last things done by hand; each is undone by doing its opposite: put in, take off. */
    static final class Deeds {
        private static final int MOST = 40;

        private final int[] sets;
        private final int[] numbers;
        private int next;
        private int size;

        Deeds() {
            sets = new int[MOST];
            numbers = new int[MOST];
        }

        int size() {
            return size;
        }

        void note(int set, int x) {
            sets[next] = set;
            numbers[next] = x;
            next = (next + 1) % MOST;
            size = Math.min(size + 1, MOST);
        }

        private int last() {
            return (next + MOST - 1) % MOST;
        }

        int lastSet() {
            return sets[last()];
        }

        int lastNumber() {
            return numbers[last()];
        }

        void forgetLast() {
            if (size > 0) {
                next = last();
                size--;
            }
        }

        void forgetAll() {
            next = 0;
            size = 0;
        }
    }

    /** A SET: which numbers are of it, and what is told of it most often. */
    static final class StepSet {
        static final int MOST_CONDUCTOR = 200;
        static final int MOST_GENERATORS = 24;
        /** A GENERATOR is less than CONDUCTOR and the least GENERATOR together. */
        private static final int ROW = 2 * MOST_CONDUCTOR;

        private final boolean[] row;
        final int[] gaps;
        final int[] generators;
        int genus;
        int generatorCount;
        int top;

        StepSet() {
            row = new boolean[ROW];
            gaps = new int[MOST_CONDUCTOR];
            generators = new int[MOST_GENERATORS];
            top = NONE;
        }

        boolean holds(int x) {
            if (x < 0 || x > top) {
                return x >= 0;
            }
            return x < ROW && row[x];
        }

        int conductor() {
            return top + 1;
        }

        int countBelowConductor() {
            return conductor() - genus;
        }

        int leastGenerator() {
            return generatorCount > 0 ? generators[0] : 1;
        }

        int weight() {
            int sum = 0;
            for (int i = 0; i < genus; i++) {
                sum += gaps[i] - (i + 1);
            }
            return sum;
        }

        static boolean symmetrical(int top, int genus) {
            return 2 * genus == top + 1;
        }

        static boolean nearlySymmetrical(int top, int genus) {
            return top > 0 && top % 2 == 0 && 2 * genus == top + 2;
        }

        static boolean isLone(int top, int genus) {
            return symmetrical(top, genus) || nearlySymmetrical(top, genus);
        }

        /** The row is new: finds all else anew; false if the SET goes too far. */
        private boolean settle() {
            top = NONE;
            genus = 0;
            generatorCount = 0;
            for (int x = 0; x < ROW; x++) {
                if (!row[x]) {
                    top = x;
                }
            }
            if (top >= MOST_CONDUCTOR) {
                return false;
            }
            for (int x = 1; x <= top; x++) {
                if (!row[x]) {
                    gaps[genus] = x;
                    genus++;
                }
            }
            return findGenerators();
        }

        /** What is made of others is made of one of the GENERATORS found before it, and a rest of the SET. */
        private boolean findGenerators() {
            int end = ROW;
            for (int x = 1; x < end; x++) {
                boolean isOld = !row[x];
                for (int k = 0; k < generatorCount && !isOld; k++) {
                    isOld = x > generators[k] && row[x - generators[k]];
                }
                if (!isOld && generatorCount >= MOST_GENERATORS) {
                    return false;
                }
                if (!isOld) {
                    generators[generatorCount] = x;
                    generatorCount++;
                    end = Math.min(ROW, top + generators[0] + 1);
                }
            }
            return true;
        }

        /** Steps with a common divisor leave GAPS up to the row's end: they go too far. */
        boolean becomeSums(int[] steps, int count) {
            row[0] = true;
            for (int x = 1; x < ROW; x++) {
                row[x] = false;
                for (int n = 0; n < count && n < steps.length && !row[x]; n++) {
                    row[x] = steps[n] >= 1 && steps[n] <= x && row[x - steps[n]];
                }
            }
            return settle();
        }

        boolean becomeMeet(StepSet first, StepSet second) {
            for (int x = 0; x < ROW; x++) {
                row[x] = first.holds(x) && second.holds(x);
            }
            return settle();
        }

        boolean becomePart(StepSet whole, int times) {
            for (int x = 0; x < ROW; x++) {
                row[x] = whole.holds(x * times);
            }
            return settle();
        }

        /**
         * The numbers of the least such SET are the least step, with the next least step added,
         * and so on, when each time the least step is taken off all other ones; from where a
         * step is 1, all are of it.
         */
        boolean becomeArf(StepSet from) {
            int count = from.generatorCount;
            System.arraycopy(from.generators, 0, generators, 0, count);
            for (int x = 0; x < ROW; x++) {
                row[x] = x == 0;
            }
            int sum = 0;
            for (int round = 0; round < ROW; round++) {
                int least = leastOf(generators, count);
                if (least <= 1 || sum + least >= ROW) {
                    break;
                }
                sum += least;
                row[sum] = true;
                for (int k = 0; k < count; k++) {
                    generators[k] -= generators[k] > least ? least : 0;
                }
            }
            for (int x = sum; x < ROW; x++) {
                row[x] = true;
            }
            return settle();
        }

        private static int leastOf(int[] numbers, int count) {
            int least = Integer.MAX_VALUE;
            for (int k = 0; k < count; k++) {
                least = Math.min(least, numbers[k]);
            }
            return least;
        }

        void copyFrom(StepSet other) {
            for (int x = 0; x < ROW; x++) {
                row[x] = other.row[x];
            }
            settle();
        }

        /** What was of it is taken off, what was not is put in; false, and all is as before, if that goes too far. */
        boolean flip(int x) {
            if (x < 1 || x >= ROW) {
                return false;
            }
            row[x] = !row[x];
            if (settle()) {
                return true;
            }
            row[x] = !row[x];
            settle();
            return false;
        }

        /** A GAP that gives one of the SET with each GENERATOR does so with all sums of them. */
        private boolean isStiff(int x) {
            if (x < 1 || holds(x)) {
                return false;
            }
            for (int k = 0; k < generatorCount; k++) {
                if (!holds(x + generators[k])) {
                    return false;
                }
            }
            return true;
        }

        boolean isSpecial(int x) {
            return isStiff(x) && holds(2 * x);
        }

        boolean isGenerator(int x) {
            for (int k = 0; k < generatorCount; k++) {
                if (generators[k] == x) {
                    return true;
                }
            }
            return false;
        }

        /** How many STIFF GAPS (i NONE), or the i-th; with twiceToo the SPECIAL ones alone. */
        int stiffAt(int i, boolean twiceToo) {
            int found = 0;
            for (int k = 0; k < genus; k++) {
                int x = gaps[k];
                if (isStiff(x) && (!twiceToo || holds(2 * x))) {
                    if (found == i) {
                        return x;
                    }
                    found++;
                }
            }
            return i == NONE ? found : NONE;
        }

        int leastOfRest(int n, int r) {
            if (n < 1 || r < 0) {
                return NONE;
            }
            int x = r;
            for (int round = 0; round <= MOST_CONDUCTOR && !holds(x); round++) {
                x += n;
            }
            return x;
        }

        int childAt(int i) {
            int found = 0;
            for (int k = 0; k < generatorCount; k++) {
                if (generators[k] > top) {
                    if (found == i) {
                        return generators[k];
                    }
                    found++;
                }
            }
            return i == NONE ? found : NONE;
        }

        int grandchildren() {
            int found = 0;
            for (int k = 0; k < generatorCount; k++) {
                if (generators[k] > top) {
                    found += childrenWithout(generators[k]);
                }
            }
            return found;
        }

        /** How many CHILDREN the SET has without one of its GENERATORS above TOP. */
        private int childrenWithout(int off) {
            int found = 0;
            int farthest = off + leastGenerator() + 1;
            for (int x = off + 1; x <= farthest; x++) {
                found += isMadeWithout(x, off) ? 0 : 1;
            }
            return found;
        }

        /**
         * Whether x is a sum of two above 0, neither of which is the one taken off. Only four
         * times that one or more could be so without another GENERATOR; no x asked is as great.
         */
        private boolean isMadeWithout(int x, int off) {
            for (int k = 0; k < generatorCount; k++) {
                int rest = x - generators[k];
                if (generators[k] != off && rest > 0 && rest != off && holds(rest)) {
                    return true;
                }
            }
            return false;
        }

        /** The GAPS that are left on the way of PARENTS are the least ones: how many are alike. */
        static int commonGaps(StepSet a, StepSet b) {
            int common = 0;
            for (int i = 0; i < a.genus && i < b.genus && a.gaps[i] == b.gaps[i]; i++) {
                common++;
            }
            return common;
        }

        boolean hasAllOf(StepSet other) {
            for (int i = 0; i < genus; i++) {
                if (other.holds(gaps[i])) {
                    return false;
                }
            }
            return true;
        }
    }

    /** WAYS of a number: how many, which, how long, how far from one another. */
    static final class Walks {
        private static final int NUMBERS = GREATEST_SUM + 1;
        private static final int MOST_CHAINED = 60;

        /** Of the k-th GENERATOR and those behind it: in how many WAYS they make each number. */
        private final int[][] numbers;
        private final int[] takes;
        private final int[][] found;
        private final int[] near;
        private final int[] fewest;
        private final int[] grabbed;
        private final int[] left;
        private boolean[] reached;
        private boolean[] reachedNext;

        Walks() {
            numbers = new int[StepSet.MOST_GENERATORS + 1][NUMBERS];
            takes = new int[StepSet.MOST_GENERATORS];
            found = new int[MOST_CHAINED][StepSet.MOST_GENERATORS];
            near = new int[MOST_CHAINED];
            fewest = new int[NUMBERS];
            grabbed = new int[NUMBERS];
            left = new int[NUMBERS];
            reached = new boolean[NUMBERS];
            reachedNext = new boolean[NUMBERS];
        }

        int number(StepSet s, int x) {
            int last = s.generatorCount;
            for (int y = 0; y <= x; y++) {
                numbers[last][y] = y == 0 ? 1 : 0;
            }
            for (int k = last - 1; k >= 0; k--) {
                int g = s.generators[k];
                for (int y = 0; y <= x; y++) {
                    numbers[k][y] = numbers[k + 1][y] + (g >= 1 && y >= g ? numbers[k][y - g] : 0);
                }
            }
            return numbers[0][x];
        }

        int taken(StepSet s, int x, int i, int k) {
            if (i < 0 || i >= number(s, x)) {
                return NONE;
            }
            goAlong(s, x, i);
            return takes[k];
        }

        /** The i-th WAY goes into takes; number(s, x) has been asked and is above i. */
        private void goAlong(StepSet s, int x, int i) {
            int rest = x;
            int ahead = i;
            for (int k = 0; k < s.generatorCount; k++) {
                int g = s.generators[k];
                takes[k] = 0;
                for (int often = times(rest, g); often >= 0; often--) {
                    int so = numbers[k + 1][rest - often * g];
                    if (ahead < so) {
                        takes[k] = often;
                        rest -= often * g;
                        break;
                    }
                    ahead -= so;
                }
            }
        }

        private static int times(int whole, int step) {
            return step < 1 ? 0 : whole / step;
        }

        /** what 0 the least LENGTH, 1 the greatest, 2 how many, 3 STEP; NOTHING without a WAY. */
        int measure(StepSet s, int x, int what) {
            int least = NONE;
            int last = NONE;
            int many = 0;
            int step = 0;
            startReach();
            int longest = times(x, s.leastGenerator());
            for (int length = 0; length <= longest; length++) {
                if (reached[x]) {
                    least = many == 0 ? length : least;
                    step = many == 0 ? 0 : Math.max(step, length - last);
                    last = length;
                    many++;
                }
                reachOneMore(s, x);
            }
            if (many == 0) {
                return NOTHING;
            }
            switch (what) {
                case 0:
                    return least;
                case 1:
                    return last;
                case 2:
                    return many;
                default:
                    return step;
            }
        }

        private void startReach() {
            for (int y = 0; y < NUMBERS; y++) {
                reached[y] = y == 0;
            }
        }

        /** From the numbers that n GENERATORS make to those that one more makes. */
        private void reachOneMore(StepSet s, int x) {
            for (int y = 0; y <= x; y++) {
                boolean so = false;
                for (int k = 0; k < s.generatorCount && s.generators[k] <= y && !so; k++) {
                    so = reached[y - s.generators[k]];
                }
                reachedNext[y] = so;
            }
            boolean[] old = reached;
            reached = reachedNext;
            reachedNext = old;
        }

        /** CHAIN: the longest hop, when each WAY is joined to the others by as short a hop as can be. */
        int longestNeeded(StepSet s, int x) {
            int many = number(s, x);
            if (many < 1 || many > MOST_CHAINED) {
                return NOTHING;
            }
            for (int i = 0; i < many; i++) {
                goAlong(s, x, i);
                System.arraycopy(takes, 0, found[i], 0, s.generatorCount);
                near[i] = Integer.MAX_VALUE;
            }
            int longest = 0;
            int joined = 0;
            for (int round = 1; round < many; round++) {
                near[joined] = NONE;
                joined = nearest(s, joined, many);
                longest = Math.max(longest, near[joined]);
            }
            return longest;
        }

        /** Of those not yet joined the one nearest to those that are, the newest of which is told. */
        private int nearest(StepSet s, int newest, int many) {
            int best = newest;
            for (int i = 0; i < many; i++) {
                if (near[i] != NONE) {
                    near[i] = Math.min(near[i], apart(found[newest], found[i], s.generatorCount));
                    if (best == newest || near[i] < near[best]) {
                        best = i;
                    }
                }
            }
            return best;
        }

        private static int apart(int[] a, int[] b, int size) {
            int onlyFirst = 0;
            int onlySecond = 0;
            for (int k = 0; k < size; k++) {
                onlyFirst += Math.max(0, a[k] - b[k]);
                onlySecond += Math.max(0, b[k] - a[k]);
            }
            return Math.max(onlyFirst, onlySecond);
        }

        /** GREEDY of x: what 0 whether it comes out, 1 how many it takes, 2 what is left. */
        int grab(StepSet s, int x, int what) {
            grabAll(s, x);
            if (what == 0) {
                return left[x] == 0 ? 1 : 0;
            }
            return what == 1 ? grabbed[x] : left[x];
        }

        private void grabAll(StepSet s, int upTo) {
            for (int y = 0; y <= upTo; y++) {
                int g = greatestWithin(s, y);
                grabbed[y] = g < 1 ? 0 : grabbed[y - g] + 1;
                left[y] = g < 1 ? y : left[y - g];
            }
        }

        private static int greatestWithin(StepSet s, int y) {
            int greatest = 0;
            for (int k = 0; k < s.generatorCount && s.generators[k] <= y; k++) {
                greatest = s.generators[k];
            }
            return greatest;
        }

        int firstBlunder(StepSet s) {
            grabAll(s, GREATEST_SUM);
            fewest[0] = 0;
            for (int y = 1; y < NUMBERS; y++) {
                fewest[y] = fewestFor(s, y);
                if (fewest[y] != NONE && (left[y] != 0 || grabbed[y] > fewest[y])) {
                    return y;
                }
            }
            return NOTHING;
        }

        /** The least LENGTH of y, NONE without a WAY; those of all less than y are known. */
        private int fewestFor(StepSet s, int y) {
            int best = NONE;
            for (int k = 0; k < s.generatorCount && s.generators[k] <= y; k++) {
                int rest = fewest[y - s.generators[k]];
                if (rest != NONE && (best == NONE || rest + 1 < best)) {
                    best = rest + 1;
                }
            }
            return best;
        }
    }

    /** PARTS, TIES and RULES. */
    static final class Knots {
        private final int[] ties;
        private final int[] knownFor;
        private int knownCount;
        private int tieCount;
        private int rules;

        Knots() {
            ties = new int[GREATEST_PARTED + 1];
            knownFor = new int[StepSet.MOST_GENERATORS];
        }

        int rulesOf(StepSet s) {
            learn(s);
            return rules;
        }

        int tieAt(StepSet s, int i) {
            learn(s);
            return pick(ties, tieCount, i);
        }

        /** The TIES of the SET that was asked last are kept: they are dear. */
        private void learn(StepSet s) {
            if (isKnown(s)) {
                return;
            }
            System.arraycopy(s.generators, 0, knownFor, 0, s.generatorCount);
            knownCount = s.generatorCount;
            tieCount = 0;
            rules = 0;
            int farthest = Math.min(farthestTie(s), GREATEST_PARTED);
            for (int x = 1; x <= farthest; x++) {
                int parts = partsOf(s, x);
                if (parts > 1) {
                    ties[tieCount] = x;
                    tieCount++;
                    rules += parts - 1;
                }
            }
        }

        private boolean isKnown(StepSet s) {
            if (knownCount != s.generatorCount) {
                return false;
            }
            for (int k = 0; k < knownCount; k++) {
                if (knownFor[k] != s.generators[k]) {
                    return false;
                }
            }
            return true;
        }

        /** Beyond it every BEGINNING is NEXT to the least GENERATOR. */
        private static int farthestTie(StepSet s) {
            if (s.generatorCount < 1) {
                return 0;
            }
            return s.top + s.leastGenerator() + s.generators[s.generatorCount - 1];
        }

        static int partsOf(StepSet s, int x) {
            int rest = 0;
            for (int k = 0; k < s.generatorCount; k++) {
                if (s.holds(x - s.generators[k])) {
                    rest |= 1 << k;
                }
            }
            int parts = 0;
            for (int k = 0; k < s.generatorCount && rest != 0; k++) {
                if ((rest >> k & 1) != 0) {
                    rest = withoutPartOf(s, x, k, rest);
                    parts++;
                }
            }
            return parts;
        }

        /** The BEGINNINGS, as bits, less all those to which one comes from the one told. */
        private static int withoutPartOf(StepSet s, int x, int from, int beginnings) {
            int waiting = 1 << from;
            int rest = beginnings & ~waiting;
            for (int round = 0; round < StepSet.MOST_GENERATORS && waiting != 0 && rest != 0; round++) {
                int k = Math.min(Integer.numberOfTrailingZeros(waiting), StepSet.MOST_GENERATORS - 1);
                int reached = nextTo(s, x - s.generators[k], rest);
                waiting = waiting & ~(1 << k) | reached;
                rest &= ~reached;
            }
            return rest;
        }

        /** Which of these GENERATORS, as bits, leave one of the SET when taken off. */
        private static int nextTo(StepSet s, int x, int among) {
            int found = 0;
            for (int k = 0; k < s.generatorCount; k++) {
                if ((among >> k & 1) != 0 && s.holds(x - s.generators[k])) {
                    found |= 1 << k;
                }
            }
            return found;
        }
    }

    /**
     * SETS with few GAPS, as bits: bit x tells whether x is of it, and all above bit 31 are. With
     * 8 GAPS at most, TOP is below 16 and each GENERATOR below 25. An object keeps a GENUS' LIST.
     */
    static final class Small {
        static final int GREATEST_GENUS = 8;
        /** No GAP is as great as this. */
        static final int BEYOND = 2 * GREATEST_GENUS;

        /** So many SETS have 8 GAPS; fewer have fewer. */
        private static final int MOST_LISTED = 67;

        private final int[] masks;
        private int size;
        private int listedGenus;

        Small() {
            masks = new int[MOST_LISTED];
            listedGenus = NONE;
        }

        static int maskOf(StepSet s) {
            int mask = -1;
            for (int i = 0; i < s.genus; i++) {
                mask &= ~(1 << s.gaps[i]);
            }
            return mask;
        }

        static boolean contains(int mask, int x) {
            return (mask >> x & 1) != 0;
        }

        /** Whether a number, that is not above 31, is a sum of two above 0 of these. */
        static boolean isSumOfTwo(int mask, int x) {
            for (int a = 1; 2 * a <= x; a++) {
                if (contains(mask, a) && contains(mask, x - a)) {
                    return true;
                }
            }
            return false;
        }

        static boolean hasAllSums(int mask) {
            for (int a = 1; a < BEYOND; a++) {
                if (contains(mask, a) && (mask << a & ~mask) != 0) {
                    return false;
                }
            }
            return true;
        }

        /** How many GENERATORS (k NONE), or the k-th. */
        static int stepAt(int mask, int k) {
            int found = 0;
            for (int x = 1; x < 32; x++) {
                if (contains(mask, x) && !isSumOfTwo(mask, x)) {
                    if (found == k) {
                        return x;
                    }
                    found++;
                }
            }
            return k == NONE ? found : NONE;
        }

        /** The least SET that has all of this one, and a step. */
        static int grown(int mask, int step) {
            int all = mask;
            for (int round = 0; round < BEYOND; round++) {
                all |= all << step;
            }
            return all;
        }

        int sizeOf(int genus) {
            learn(genus);
            return size;
        }

        int maskAt(int genus, int i) {
            learn(genus);
            return i >= 0 && i < size ? masks[i] : 0;
        }

        int indexOf(StepSet s) {
            learn(s.genus);
            int mask = maskOf(s);
            for (int i = 0; i < size; i++) {
                if (masks[i] == mask) {
                    return i;
                }
            }
            return NONE;
        }

        private void learn(int genus) {
            if (listedGenus != genus) {
                listedGenus = genus;
                size = 0;
                decide(this, 1, 1, genus);
            }
        }

        /**
         * From a number on, each is put in or left out: put in first, so that the LIST comes in
         * its order. What two make is always in.
         */
        private static void decide(Small into, int number, int mask, int gapsLeft) {
            if (gapsLeft == 0) {
                into.note(mask | -1 << number);
                return;
            }
            if (number >= 2 * into.listedGenus || number >= BEYOND) {
                return;
            }
            decide(into, number + 1, mask | 1 << number, gapsLeft);
            if (!isSumOfTwo(mask, number)) {
                decide(into, number + 1, mask, gapsLeft - 1);
            }
        }

        private void note(int mask) {
            if (size < MOST_LISTED) {
                masks[size] = mask;
                size++;
            }
        }
    }

    /** Those ABOVE a SET with few GAPS, each by its number: the GAPS that it has, in bits. */
    static final class Cover {
        private static final int MOST = 1 << Small.GREATEST_GENUS;

        private final boolean[] isSet;
        private final boolean[] wins;
        private final int[] lone;
        private final int[] chosen;
        private int loneCount;
        private int genus;
        private int base;
        private final int[] gaps;

        Cover() {
            isSet = new boolean[MOST];
            wins = new boolean[MOST];
            lone = new int[MOST];
            chosen = new int[Small.GREATEST_GENUS];
            gaps = new int[Small.GREATEST_GENUS];
        }

        /** How many numbers there are, of SETS and of others; finds out which are of SETS. */
        private int open(StepSet s) {
            genus = Math.min(s.genus, Small.GREATEST_GENUS);
            System.arraycopy(s.gaps, 0, gaps, 0, genus);
            base = Small.maskOf(s);
            int all = 1 << genus;
            for (int n = 0; n < all; n++) {
                isSet[n] = Small.hasAllSums(spread(n));
            }
            return all;
        }

        private int spread(int n) {
            int mask = base;
            for (int j = 0; j < genus; j++) {
                if ((n >> j & 1) != 0) {
                    mask |= 1 << gaps[j];
                }
            }
            return mask;
        }

        private int numberOf(int mask) {
            int n = 0;
            for (int j = 0; j < genus; j++) {
                if (Small.contains(mask, gaps[j])) {
                    n |= 1 << j;
                }
            }
            return n;
        }

        int size(StepSet s) {
            int all = open(s);
            int found = 0;
            for (int n = 0; n < all; n++) {
                found += isSet[n] ? 1 : 0;
            }
            return found;
        }

        int pieceAt(StepSet s, int i) {
            int all = open(s);
            loneCount = 0;
            for (int n = 0; n < all; n++) {
                if (isSet[n] && isLoneNumber(n)) {
                    lone[loneCount] = n;
                    loneCount++;
                }
            }
            int pieces = 0;
            for (int size = 1; size <= chosen.length && pieces == 0; size++) {
                pieces = choose(this, 0, size, 0, all - 1) ? size : 0;
            }
            return pick(chosen, pieces, i);
        }

        private boolean isLoneNumber(int n) {
            int top = NONE;
            for (int j = 0; j < genus; j++) {
                if ((n >> j & 1) == 0) {
                    top = gaps[j];
                }
            }
            return StepSet.isLone(top, genus - Integer.bitCount(n));
        }

        /** Chooses the rest of so many, from one on; common are the GAPS that all up to now have. */
        private static boolean choose(Cover in, int depth, int size, int from, int common) {
            if (depth >= size || depth >= in.chosen.length) {
                return common == 0;
            }
            for (int j = from; j < in.loneCount; j++) {
                in.chosen[depth] = in.lone[j];
                if (choose(in, depth + 1, size, j + 1, common & in.lone[j])) {
                    return true;
                }
            }
            return false;
        }

        /** How many GOOD GAPS (i NONE), or the i-th. */
        int winningGapAt(StepSet s, int i) {
            play(open(s));
            int found = 0;
            for (int j = 0; j < genus; j++) {
                if (isWinning(0, j)) {
                    if (found == i) {
                        return gaps[j];
                    }
                    found++;
                }
            }
            return i == NONE ? found : NONE;
        }

        /**
         * Who is to name wins, from each SET, the one with no GAPS first: there the other one has
         * just named 1. Each GAP named leads to a greater number.
         */
        private void play(int all) {
            wins[all - 1] = true;
            for (int n = all - 2; n >= 0; n--) {
                wins[n] = false;
                for (int j = 0; j < genus && isSet[n] && !wins[n]; j++) {
                    wins[n] = isWinning(n, j);
                }
            }
        }

        private boolean isWinning(int n, int j) {
            return (n >> j & 1) == 0 && !wins[numberOf(Small.grown(spread(n), gaps[j]))];
        }
    }
}
