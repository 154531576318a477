/**
 * Two readers that remember names, a text of moves, and a row of pairs.
 *
 * A SPOT is where a reader stands: its state and what its registers hold, packed into one number
 * (the state from bit 12 on, four bits for each register; 0 is an empty register, names are told by
 * small numbers from 1 on). Nothing is made after the constructor: every row below is used again.
 */
public final class NameReaders {
    public static final int NONE = -1, UNKNOWN = -2, OUTSIDE = -3, NOT = -4, FULL = -5, MANY = 1000000001;

    private static final int STATES = 6, REGISTERS = 3, MOVES = 20, LETTERS = 3, NAMES = 100;
    private static final int PAIRS = 12, BYTES = 150, PARTS = 5, GAP = -1, GAP_PAIRS = 3;
    private static final int FROM = 0, LETTER = 1, TEST = 2, KEEPS = 3, TO = 4;
    private static final int NEW = 3, ANY = 4;
    private static final int STATE_SHIFT = 12, HELD = (1 << STATE_SHIFT) - 1, SPOTS = STATES << STATE_SHIFT;
    /** Names by bits, when each of them may still come. */
    private static final int ALL = -1;
    private static final int SHAPE_PAIRS = 6, PARTED_PAIRS = 5;
    /** A register is empty or has one of six names that come again (Walks.giveSlots). */
    private static final int LIVE = 7, LEDGER = STATES * LIVE * LIVE * LIVE;

    private final Reader zero = new Reader();
    private final Reader one = new Reader();
    /** Takes nothing, ever: what parts a reader from it is what that reader takes. */
    private final Reader blank = new Reader();
    private final Text text = new Text();
    private final Row row = new Row();
    private final Walks walks;
    private final Fillings gaps;
    private final Mender mender;
    private final ShapeSearch search;
    private final Outlook outlook;
    private final Meeting meeting;

    public NameReaders() {
        Spots[] sets = new Spots[PAIRS + 2];
        for (int i = 0; i < sets.length; i++) {
            sets[i] = new Spots(SPOTS);
        }
        long[] ledger = new long[LEDGER];
        long[] other = new long[LEDGER];
        walks = new Walks(sets, ledger, other);
        gaps = new Fillings(sets, walks, row, blank);
        mender = new Mender(sets[0], sets[1], ledger, other);
        search = new ShapeSearch(sets, blank);
        outlook = new Outlook(sets[0], sets[1]);
        meeting = new Meeting(zero, one);
    }

    // ---- readers

    public int reader(int reader, int states, int registers, int takes) {
        Reader known = readerOf(reader);
        if (known == null) {
            return UNKNOWN;
        }
        if (!within(states, 1, STATES) || !within(registers, 0, REGISTERS) || takes >> states != 0) {
            return OUTSIDE;
        }
        known.become(states, registers, takes);
        return 1;
    }

    public int write(long bytes, int n) {
        if (!within(n, 1, 8)) {
            return OUTSIDE;
        }
        if (text.size() + n > BYTES) {
            return FULL;
        }
        return text.put(bytes, n);
    }

    public int erase() {
        return text.wipe();
    }

    public int fault(int reader) {
        Reader known = readerOf(reader);
        return known == null ? UNKNOWN : text.parse(known);
    }

    public int moves(int reader) {
        Reader known = readerOf(reader);
        if (known == null) {
            return UNKNOWN;
        }
        if (text.parse(known) != NONE) {
            return NOT;
        }
        if (known.size() + text.found() > MOVES) {
            return FULL;
        }
        known.appendAll(text.told(), text.found());
        text.wipe();
        return known.size();
    }

    public int move(int reader, int move, int what) {
        Reader known = readerOf(reader);
        if (known == null || !within(move, 0, known.size() - 1)) {
            return UNKNOWN;
        }
        return within(what, FROM, TO) ? known.part(move, what) : OUTSIDE;
    }

    public int drop(int reader, int move) {
        Reader known = readerOf(reader);
        if (known == null || !within(move, 0, known.size() - 1)) {
            return UNKNOWN;
        }
        known.remove(move);
        return known.size();
    }

    // ---- rows

    public int pair(int letter, int name) {
        if (!isPair(letter, name)) {
            return OUTSIDE;
        }
        if (row.size() >= PAIRS) {
            return FULL;
        }
        row.append(letter, name);
        return row.size();
    }

    public int change(int pair, int letter, int name) {
        if (!within(pair, 0, row.size() - 1)) {
            return UNKNOWN;
        }
        if (!isPair(letter, name)) {
            return OUTSIDE;
        }
        row.put(pair, letter, name);
        return 1;
    }

    public int hush() {
        return row.wipe();
    }

    public int taken(int reader) {
        Reader known = readerOf(reader);
        if (known == null) {
            return UNKNOWN;
        }
        if (row.gaps() > 0) {
            return NOT;
        }
        return known.takesSome(walks.statesBehind(known, row, row.size())) ? 1 : 0;
    }

    public int may(int reader, int k) {
        Reader known = readerOf(reader);
        if (known == null) {
            return UNKNOWN;
        }
        if (!within(k, 0, row.size())) {
            return OUTSIDE;
        }
        return row.gaps() > 0 ? NOT : walks.statesBehind(known, row, k);
    }

    public int runs(int reader) {
        Reader known = readerOf(reader);
        if (known == null) {
            return UNKNOWN;
        }
        return row.gaps() > 0 ? NOT : walks.runsThatTake(known, row);
    }

    public int run(int reader, int k) {
        Reader known = readerOf(reader);
        if (known == null) {
            return UNKNOWN;
        }
        if (k < 0) {
            return OUTSIDE;
        }
        if (row.gaps() > 0) {
            return NOT;
        }
        return k < row.size() && walks.findRun(known, row) ? walks.moveOfRun(k) : NONE;
    }

    // ---- shapes

    public int shapes(int reader, int n, int l) {
        Reader known = readerOf(reader);
        if (known == null) {
            return UNKNOWN;
        }
        if (!within(n, 0, SHAPE_PAIRS) || !within(l, 1, LETTERS)) {
            return OUTSIDE;
        }
        search.find(known, blank, n, l, MANY);
        return search.passed();
    }

    public int shape(int reader, int n, int l, int i, int k) {
        Reader known = readerOf(reader);
        if (known == null) {
            return UNKNOWN;
        }
        if (!within(n, 0, SHAPE_PAIRS) || !within(l, 1, LETTERS) || i < 0 || k < 0) {
            return OUTSIDE;
        }
        return k < n && search.find(known, blank, n, l, i) ? search.pairAt(k) : NONE;
    }

    public int least(int reader) {
        Reader known = readerOf(reader);
        return known == null ? UNKNOWN : outlook.shortest(known);
    }

    public int first(int reader, int k) {
        Reader known = readerOf(reader);
        if (known == null) {
            return UNKNOWN;
        }
        if (k < 0) {
            return OUTSIDE;
        }
        int length = outlook.shortest(known);
        if (length > PAIRS || k >= length) {
            return NONE;
        }
        return outlook.firstPair(known, length, k);
    }

    public int useless(int reader) {
        Reader known = readerOf(reader);
        return known == null ? UNKNOWN : outlook.neverMade(known);
    }

    public int twofold(int reader) {
        Reader known = readerOf(reader);
        return known == null ? UNKNOWN : outlook.twoAtOnce(known);
    }

    public int both() {
        return meeting.shortest();
    }

    public int parted(int n, int k) {
        if (!within(n, 0, PARTED_PAIRS) || k < -1) {
            return OUTSIDE;
        }
        for (int length = 0; length <= n; length++) {
            if (search.find(zero, one, length, LETTERS, 0)) {
                if (k < 0) {
                    return length;
                }
                return k < length ? search.pairAt(k) : NONE;
            }
        }
        return NONE;
    }

    // ---- gaps, mends

    public int fillings(int reader) {
        Reader known = readerOf(reader);
        if (known == null) {
            return UNKNOWN;
        }
        return row.gapPairs() > GAP_PAIRS ? NOT : gaps.search(known, false);
    }

    public int filled(int reader, int k) {
        Reader known = readerOf(reader);
        if (known == null) {
            return UNKNOWN;
        }
        if (k < 0) {
            return OUTSIDE;
        }
        if (row.gapPairs() > GAP_PAIRS) {
            return NOT;
        }
        return k < row.size() && gaps.search(known, true) > 0 ? gaps.pairAt(k) : NONE;
    }

    public int mend(int reader) {
        Reader known = readerOf(reader);
        if (known == null) {
            return UNKNOWN;
        }
        return row.gaps() > 0 ? NOT : mender.fewest(known, row);
    }

    public int count(int what) {
        switch (what) {
            case 0: return row.size();
            case 1: return row.gaps();
            case 2: return row.told();
            case 3: return text.size();
            case 4: return zero.size();
            case 5: return one.size();
            default: return OUTSIDE;
        }
    }

    private Reader readerOf(int reader) {
        if (reader == 0) {
            return zero;
        }
        return reader == 1 ? one : null;
    }

    private static boolean within(int number, int least, int most) {
        return number >= least && number <= most;
    }

    private static boolean isPair(int letter, int name) {
        return within(letter, GAP, LETTERS - 1) && within(name, GAP, NAMES - 1);
    }

    /** A reader: its states, its registers and its moves. */
    private static final class Reader {
        private final int[] parts = new int[MOVES * PARTS];
        /** The moves by state and letter, and where those of each begin: a spot asks for its own alone. */
        private final int[] order = new int[MOVES];
        private final int[] begins = new int[STATES * LETTERS + 1];
        private int states = 1;
        private int registers = 0;
        private int takes = 0;
        private int size = 0;

        int states() {
            return states;
        }

        int registers() {
            return registers;
        }

        int size() {
            return size;
        }

        void become(int howManyStates, int howManyRegisters, int thatTake) {
            states = howManyStates;
            registers = howManyRegisters;
            takes = thatTake;
            size = 0;
            sort();
        }

        void appendAll(int[] told, int many) {
            if (many < 0 || many > MOVES - size || many * PARTS > told.length) {
                return;
            }
            System.arraycopy(told, 0, parts, size * PARTS, many * PARTS);
            size += many;
            sort();
        }

        void remove(int move) {
            if (move < 0 || move >= size) {
                return;
            }
            int behind = (move + 1) * PARTS;
            System.arraycopy(parts, behind, parts, behind - PARTS, size * PARTS - behind);
            size--;
            sort();
        }

        private void sort() {
            int next = 0;
            for (int place = 0; place < STATES * LETTERS; place++) {
                begins[place] = next;
                for (int move = 0; move < size && next < MOVES; move++) {
                    if (part(move, FROM) * LETTERS + part(move, LETTER) == place) {
                        order[next] = move;
                        next++;
                    }
                }
            }
            begins[STATES * LETTERS] = next;
        }

        int part(int move, int what) {
            return parts[move * PARTS + what];
        }

        /** The moves by a letter from a spot are moveAt(begin) .. moveAt(end - 1), the least number first. */
        int begin(int spot, int letter) {
            return begins[(spot >> STATE_SHIFT) * LETTERS + letter];
        }

        int end(int spot, int letter) {
            return begins[(spot >> STATE_SHIFT) * LETTERS + letter + 1];
        }

        int moveAt(int place) {
            return order[place];
        }

        boolean hasTest(int letter, int least, int most) {
            for (int move = 0; move < size; move++) {
                if (part(move, LETTER) == letter && part(move, TEST) >= least && part(move, TEST) <= most) {
                    return true;
                }
            }
            return false;
        }

        boolean takesSome(int statesByBits) {
            return (takes & statesByBits) != 0;
        }

        boolean takesAt(int spot) {
            return (takes >> (spot >> STATE_SHIFT) & 1) != 0;
        }

        boolean takesBehind(int move) {
            return (takes >> part(move, TO) & 1) != 0;
        }

        /** Where a move leads from a spot by a name; NONE, if it cannot be made. */
        int after(int spot, int move, int name) {
            int at = move * PARTS;
            int test = parts[at + TEST];
            boolean fits = true;
            if (test == NEW) {
                fits = (spot & 15) != name && (spot >> 4 & 15) != name && (spot >> 8 & 15) != name;
            } else if (test != ANY) {
                fits = (spot >> (test << 2) & 15) == name;
            }
            if (!fits) {
                return NONE;
            }
            int held = spot & HELD;
            int register = parts[at + KEEPS];
            if (register >= 0) {
                held = held & ~(15 << (register << 2)) | name << (register << 2);
            }
            return parts[at + TO] << STATE_SHIFT | held;
        }

        static int heldIn(int spot, int register) {
            return spot >> (register << 2) & 15;
        }

        /** A name that cannot come any more is as good as another such one: they are all told alike. */
        static int settle(int spot, int alive, int instead) {
            if (alive == ALL) {
                return spot;
            }
            int settled = spot & ~HELD;
            for (int shift = 0; shift < STATE_SHIFT; shift += 4) {
                int name = spot >> shift & 15;
                settled |= ((alive >> name & 1) != 0 ? name : instead) << shift;
            }
            return settled;
        }
    }

    /** THE TEXT, and the moves that it tells. */
    private static final class Text {
        private static final int LETTER_ROW = 0, DIGIT_ROW = 1, SIGN = 2;
        private final int[] bytes = new int[BYTES];
        private final int[] told = new int[MOVES * PARTS];
        private int size = 0;
        private int found = 0;
        /** The token that is looked at: its first byte and the one behind it. */
        private int start = 0;
        private int end = 0;

        int size() {
            return size;
        }

        int found() {
            return found;
        }

        int[] told() {
            return told;
        }

        int put(long more, int n) {
            for (int i = 0; i < n && size < BYTES; i++) {
                bytes[size] = (int) (more >> 8 * i & 255);
                size++;
            }
            return size;
        }

        int wipe() {
            int had = size;
            size = 0;
            return had;
        }

        /** The place of the fault, or NONE: then the moves have been told. */
        int parse(Reader reader) {
            end = 0;
            found = 0;
            for (int round = 0; round < BYTES; round++) {
                if (!parseMove(reader)) {
                    return start;
                }
                advance();
                if (start >= size) {
                    return NONE;
                }
                if (!isWord(";")) {
                    return start;
                }
            }
            return start;
        }

        private boolean parseMove(Reader reader) {
            int at = found * PARTS;
            int from = number(reader.states());
            if (from < 0 || at + PARTS > told.length) {
                return false;
            }
            int letter = letter();
            if (letter < 0) {
                return false;
            }
            int test = test(reader.registers());
            if (test < 0) {
                return false;
            }
            int keeps = NONE;
            advance();
            if (isWord("keep")) {
                keeps = number(reader.registers());
                if (keeps < 0) {
                    return false;
                }
                advance();
            }
            if (!isWord("to")) {
                return false;
            }
            int to = number(reader.states());
            if (to < 0) {
                return false;
            }
            told[at + FROM] = from;
            told[at + LETTER] = letter;
            told[at + TEST] = test;
            told[at + KEEPS] = keeps;
            told[at + TO] = to;
            found++;
            return true;
        }

        private int number(int limit) {
            advance();
            if (end - start != 1 || kindOf(bytes[start]) != DIGIT_ROW) {
                return NONE;
            }
            int number = bytes[start] - '0';
            return number < limit ? number : NONE;
        }

        private int letter() {
            advance();
            if (isWord("a")) {
                return 0;
            }
            if (isWord("b")) {
                return 1;
            }
            return isWord("c") ? 2 : NONE;
        }

        private int test(int registers) {
            advance();
            if (isWord("new")) {
                return NEW;
            }
            if (isWord("any")) {
                return ANY;
            }
            return isWord("is") ? number(registers) : NONE;
        }

        /** Goes on to the next token; at the end of the text that is an empty one. */
        private void advance() {
            start = end;
            while (start < size && bytes[start] == ' ') {
                start++;
            }
            end = start;
            if (start >= size) {
                return;
            }
            int kind = kindOf(bytes[start]);
            end++;
            while (end < size && kind != SIGN && kindOf(bytes[end]) == kind) {
                end++;
            }
        }

        private boolean isWord(String word) {
            if (end - start != word.length()) {
                return false;
            }
            for (int i = 0; i < word.length(); i++) {
                if (bytes[start + i] != word.charAt(i)) {
                    return false;
                }
            }
            return true;
        }

        private static int kindOf(int sign) {
            if (sign >= 'a' && sign <= 'z') {
                return LETTER_ROW;
            }
            return sign >= '0' && sign <= '9' ? DIGIT_ROW : SIGN;
        }
    }

    /** THE ROW; its names are told by numbers from 1 on too, as they come, for the spots. */
    private static final class Row {
        private final int[] letters = new int[PAIRS];
        private final int[] names = new int[PAIRS];
        private final int[] ids = new int[PAIRS];
        /** By bits, the names that may come behind so many pairs; bit 0 keeps empty registers empty. */
        private final int[] alive = new int[PAIRS + 1];
        private int size = 0;
        private int told = 0;
        private int gaps = 0;
        private int gapPairs = 0;

        int size() {
            return size;
        }

        int told() {
            return told;
        }

        int gaps() {
            return gaps;
        }

        int gapPairs() {
            return gapPairs;
        }

        int letter(int i) {
            return letters[i];
        }

        int name(int i) {
            return names[i];
        }

        int id(int i) {
            return ids[i];
        }

        int aliveBehind(int i) {
            return alive[i];
        }

        boolean hasGap(int i) {
            return letters[i] == GAP || names[i] == GAP;
        }

        void append(int letter, int name) {
            if (size >= PAIRS) {
                return;
            }
            size++;
            put(size - 1, letter, name);
        }

        void put(int i, int letter, int name) {
            if (i < 0 || i >= size) {
                return;
            }
            letters[i] = letter;
            names[i] = name;
            survey();
        }

        int wipe() {
            int had = size;
            size = 0;
            survey();
            return had;
        }

        /** The number of a name among those that the row tells; 0 if it does not. */
        int idOf(int name) {
            for (int i = 0; i < size; i++) {
                if (names[i] == name) {
                    return ids[i];
                }
            }
            return 0;
        }

        private void survey() {
            told = 0;
            gaps = 0;
            gapPairs = 0;
            for (int i = 0; i < size; i++) {
                ids[i] = idAt(i);
                gaps += (letters[i] == GAP ? 1 : 0) + (names[i] == GAP ? 1 : 0);
                gapPairs += hasGap(i) ? 1 : 0;
            }
            alive[size] = 1;
            for (int i = size - 1; i >= 0; i--) {
                alive[i] = names[i] == GAP ? ALL : alive[i + 1] | 1 << ids[i];
            }
        }

        private int idAt(int i) {
            if (names[i] == GAP) {
                return 0;
            }
            for (int j = 0; j < i; j++) {
                if (names[j] == names[i]) {
                    return ids[j];
                }
            }
            told++;
            return told;
        }
    }

    /** A set of numbers below a limit; which words have any is told as well, so that empty ones cost nothing. */
    private static final class Spots {
        private final int limit;
        private final long[] words;
        private final long[] groups;
        private int size = 0;

        Spots(int limit) {
            this.limit = Math.max(limit, 1);
            words = new long[(this.limit + 63) / 64];
            groups = new long[(words.length + 63) / 64];
        }

        int size() {
            return size;
        }

        boolean has(int spot) {
            return spot >= 0 && spot < limit && (words[spot >> 6] >> spot & 1) != 0;
        }

        /** Whether it was not in it before. */
        boolean add(int spot) {
            if (spot < 0 || spot >= limit) {
                return false;
            }
            int word = spot >> 6;
            long before = words[word];
            words[word] = before | 1L << spot;
            if (words[word] == before) {
                return false;
            }
            groups[word >> 6] |= 1L << word;
            size++;
            return true;
        }

        void clear() {
            for (int group = 0; group < groups.length && size > 0; group++) {
                long some = groups[group];
                for (int left = Long.bitCount(some); left > 0; left--) {
                    words[(group << 6) + lowest(some)] = 0;
                    some &= some - 1;
                }
                groups[group] = 0;
            }
            size = 0;
        }

        void startAt(int spot) {
            clear();
            add(spot);
        }

        /** The least one that is not below a number; NONE. */
        int next(int from) {
            if (from < 0 || from >= limit) {
                return NONE;
            }
            int word = from >> 6;
            long rest = words[word] & -1L << from;
            if (rest != 0) {
                return (word << 6) + lowest(rest);
            }
            word++;
            int group = word >> 6;
            if (group >= groups.length) {
                return NONE;
            }
            long some = groups[group] & -1L << word;
            for (group++; some == 0 && group < groups.length; group++) {
                some = groups[group];
            }
            if (some == 0) {
                return NONE;
            }
            word = (group - 1 << 6) + lowest(some);
            return (word << 6) + lowest(words[word]);
        }

        /** Becomes all the spots to which a reader comes by one pair. */
        void follow(Reader reader, Spots from, int letter, int name, int alive) {
            clear();
            for (int spot = from.next(0), left = from.size; left > 0 && spot >= 0; left--) {
                int end = reader.end(spot, letter);
                for (int k = reader.begin(spot, letter); k < end; k++) {
                    int to = reader.after(spot, reader.moveAt(k), name);
                    if (to >= 0) {
                        add(Reader.settle(to, alive, 0));
                    }
                }
                spot = from.next(spot + 1);
            }
        }

        int statesByBits() {
            int states = 0;
            for (int spot = next(0), left = size; left > 0 && spot >= 0; left--) {
                states |= 1 << (spot >> STATE_SHIFT);
                spot = next(spot + 1);
            }
            return states;
        }

        private static int lowest(long bits) {
            return Long.bitCount((bits & -bits) - 1);
        }
    }

    /** Runs over THE ROW, where it has no gaps. */
    private static final class Walks {
        private final Spots[] sets;
        private final int[] path = new int[PAIRS];
        /** For each name that comes again, a number below LIVE of its own. */
        private final int[] slots = new int[PAIRS + 1];
        private long[] ways;
        private long[] waysNext;

        Walks(Spots[] sets, long[] ways, long[] waysNext) {
            this.sets = sets;
            this.ways = ways;
            this.waysNext = waysNext;
        }

        int statesBehind(Reader reader, Row row, int k) {
            sets[0].startAt(0);
            for (int i = 0; i < k; i++) {
                sets[i + 1].follow(reader, sets[i], row.letter(i), row.id(i), row.aliveBehind(i + 1));
            }
            return sets[k].statesByBits();
        }

        boolean findRun(Reader reader, Row row) {
            forget(0, row.size());
            return runFrom(reader, row, 0, 0);
        }

        int moveOfRun(int k) {
            return path[k];
        }

        /** What runFrom() has found out of the pairs first .. last - 1 is not held any more. */
        void forget(int first, int last) {
            for (int i = first; i < last; i++) {
                sets[i].clear();
            }
        }

        /** Whether some run goes on from a spot, ahead of pair i, and takes the row. */
        boolean isTakenFrom(Reader reader, Row row, int i, int spot) {
            return runFrom(reader, row, i, spot);
        }

        /** The sets remember the spots from which no run takes it. */
        private boolean runFrom(Reader reader, Row row, int i, int spot) {
            if (i >= row.size()) {
                return reader.takesAt(spot);
            }
            if (sets[i].has(spot)) {
                return false;
            }
            int end = reader.end(spot, row.letter(i));
            for (int k = reader.begin(spot, row.letter(i)); k < end; k++) {
                int move = reader.moveAt(k);
                int to = reader.after(spot, move, row.id(i));
                if (to >= 0 && runFrom(reader, row, i + 1, Reader.settle(to, row.aliveBehind(i + 1), 0))) {
                    path[i] = move;
                    return true;
                }
            }
            sets[i].add(spot);
            return false;
        }

        int runsThatTake(Reader reader, Row row) {
            giveSlots(row);
            sets[0].startAt(0);
            ways[0] = 1;
            for (int i = 0; i < row.size(); i++) {
                spread(reader, row, i);
                long[] spent = ways;
                ways = waysNext;
                waysNext = spent;
            }
            Spots last = sets[row.size()];
            long sum = 0;
            for (int spot = last.next(0), left = last.size(); left > 0 && spot >= 0; left--) {
                sum += reader.takesAt(spot) ? ways[placeOf(spot)] : 0;
                spot = last.next(spot + 1);
            }
            return (int) Math.min(sum, MANY);
        }

        private void spread(Reader reader, Row row, int i) {
            Spots now = sets[i];
            Spots next = sets[i + 1];
            next.clear();
            for (int spot = now.next(0), left = now.size(); left > 0 && spot >= 0; left--) {
                long many = ways[placeOf(spot)];
                int end = reader.end(spot, row.letter(i));
                for (int k = reader.begin(spot, row.letter(i)); k < end; k++) {
                    int to = reader.after(spot, reader.moveAt(k), row.id(i));
                    if (to >= 0) {
                        to = Reader.settle(to, row.aliveBehind(i + 1), 0);
                        int place = placeOf(to);
                        long had = next.add(to) ? 0 : waysNext[place];
                        waysNext[place] = Math.min(had + many, MANY);
                    }
                }
                spot = now.next(spot + 1);
            }
        }

        private int placeOf(int spot) {
            int place = spot >> STATE_SHIFT;
            for (int register = 0; register < REGISTERS; register++) {
                int name = Reader.heldIn(spot, register);
                place = place * LIVE + (name < slots.length ? slots[name] : 0);
            }
            return place;
        }

        /** Names that come once alone are settled as soon as they have come; of twelve pairs, six names can come twice. */
        private void giveSlots(Row row) {
            int known = 0;
            int many = 0;
            for (int i = 0; i < row.size(); i++) {
                int name = row.id(i);
                if (name > known) {
                    known = name;
                    boolean again = (row.aliveBehind(i + 1) >> name & 1) != 0;
                    many += again ? 1 : 0;
                    slots[name] = again ? Math.min(many, LIVE - 1) : 0;
                }
            }
        }
    }

    /** THE ROW with its gaps filled. */
    private static final class Fillings {
        private final Spots[] sets;
        private final Walks walks;
        /** Spots behind the last pair with a gap from which the rest is taken. */
        private final Spots good;
        /** The names that a gap may have, the least number first, and the number of each. */
        private final int[] order = new int[PAIRS];
        private final int[] numbers = new int[PAIRS + 1];
        private final int[] letters = new int[PAIRS];
        private final int[] names = new int[PAIRS];
        private final Row row;
        private Reader reader;
        private int candidates = 0;
        private int last = 0;
        private int found = 0;
        private boolean firstAlone = false;

        Fillings(Spots[] sets, Walks walks, Row row, Reader blank) {
            this.sets = sets;
            this.walks = walks;
            this.row = row;
            reader = blank;
            good = sets[sets.length - 1];
        }

        int pairAt(int k) {
            return 128 * letters[k] + names[k];
        }

        /** How many there are; with one alone, the search ends at the first. */
        int search(Reader theReader, boolean onlyTheFirst) {
            reader = theReader;
            firstAlone = onlyTheFirst;
            found = 0;
            last = NONE;
            for (int i = 0; i < row.size(); i++) {
                letters[i] = row.letter(i);
                names[i] = row.name(i);
                last = row.hasGap(i) ? i : last;
            }
            tellNames();
            good.clear();
            walks.forget(last + 1, row.size());
            if (last < 0) {
                return walks.isTakenFrom(reader, row, 0, 0) ? 1 : 0;
            }
            sets[0].startAt(0);
            fillFrom(0, 0);
            return found;
        }

        /** Other names get the least numbers that the row does not tell, one for each name that is not known. */
        private void tellNames() {
            int others = 0;
            for (int i = 0; i < row.size(); i++) {
                others += row.name(i) == GAP ? 1 : 0;
            }
            int top = row.told();
            candidates = 0;
            for (int number = 0; number < NAMES && candidates < row.told() + others; number++) {
                int name = row.idOf(number);
                if (name == 0 && top < row.told() + others) {
                    top++;
                    name = top;
                }
                if (name > 0 && candidates < PAIRS) {
                    order[candidates] = name;
                    numbers[name] = number;
                    candidates++;
                }
            }
        }

        /** Whether the search is at its end; sets[i] has the spots ahead of pair i, and so many other names have come. */
        private boolean fillFrom(int i, int others) {
            int at = i;
            while (at < last && !row.hasGap(at)) {
                sets[at + 1].follow(reader, sets[at], row.letter(at), row.id(at), row.aliveBehind(at + 1));
                at++;
            }
            if (sets[at].size() == 0) {
                return false;
            }
            boolean open = row.letter(at) == GAP;
            for (int letter = open ? 0 : row.letter(at); letter <= (open ? LETTERS - 1 : row.letter(at)); letter++) {
                letters[at] = letter;
                for (int k = 0; k < candidates; k++) {
                    if (mayHave(at, order[k], others) && fillOne(at, order[k], others)) {
                        return true;
                    }
                }
            }
            return false;
        }

        /** Other names come one behind another. */
        private boolean mayHave(int at, int name, int others) {
            return row.name(at) == GAP ? name <= row.told() + others + 1 : name == row.id(at);
        }

        private boolean fillOne(int at, int name, int others) {
            names[at] = numbers[name];
            if (at < last) {
                sets[at + 1].follow(reader, sets[at], letters[at], name, row.aliveBehind(at + 1));
                return fillFrom(at + 1, name > row.told() + others ? others + 1 : others);
            }
            if (!restIsTaken(name)) {
                return false;
            }
            found++;
            return firstAlone;
        }

        private boolean restIsTaken(int name) {
            Spots now = sets[last];
            for (int spot = now.next(0), left = now.size(); left > 0 && spot >= 0; left--) {
                int end = reader.end(spot, letters[last]);
                for (int k = reader.begin(spot, letters[last]); k < end; k++) {
                    int to = reader.after(spot, reader.moveAt(k), name);
                    to = to < 0 ? NONE : Reader.settle(to, row.aliveBehind(last + 1), 0);
                    if (good.has(to) || to >= 0 && walks.isTakenFrom(reader, row, last + 1, to)) {
                        good.add(to);
                        return true;
                    }
                }
                spot = now.next(spot + 1);
            }
            return false;
        }
    }

    /**
     * The fewest pairs to be changed. A name in a register for which no pair ahead can be tested is OTHER: a changed
     * pair can always have it, or one that is new, so that more need not be known of it.
     */
    private static final class Mender {
        private static final int OTHER = PAIRS + 1, FRESH = OTHER + 1;
        /** By bits, the names for which pairs behind so many can be tested, and those that a register may be asked for. */
        private final int[] alive = new int[PAIRS + 1];
        private final int[] wanted = new int[PAIRS + 1];
        private Spots now;
        private Spots next;
        /** Sixteen costs in each number: SPOTS / 16 are fewer than LEDGER. */
        private long[] costs;
        private long[] costsNext;

        Mender(Spots now, Spots next, long[] costs, long[] costsNext) {
            this.now = now;
            this.next = next;
            this.costs = costs;
            this.costsNext = costsNext;
        }

        int fewest(Reader reader, Row row) {
            survey(reader, row);
            now.startAt(0);
            setCost(costs, 0, 0);
            for (int i = 0; i < row.size(); i++) {
                next.clear();
                for (int spot = now.next(0), left = now.size(); left > 0 && spot >= 0; left--) {
                    spread(reader, row, i, spot);
                    spot = now.next(spot + 1);
                }
                turn();
            }
            int best = NONE;
            for (int spot = now.next(0), left = now.size(); left > 0 && spot >= 0; left--) {
                int cost = costOf(costs, spot);
                if (reader.takesAt(spot) && (best < 0 || cost < best)) {
                    best = cost;
                }
                spot = now.next(spot + 1);
            }
            return best;
        }

        private void survey(Reader reader, Row row) {
            alive[row.size()] = 1;
            wanted[row.size()] = 0;
            for (int i = row.size() - 1; i >= 0; i--) {
                boolean asked = reader.hasTest(row.letter(i), 0, REGISTERS - 1);
                boolean tested = asked || reader.hasTest(row.letter(i), NEW, NEW);
                wanted[i] = wanted[i + 1] | (asked ? 1 << row.id(i) : 0);
                alive[i] = alive[i + 1] | (tested ? 1 << row.id(i) : 0);
            }
        }

        private void turn() {
            Spots spent = now;
            now = next;
            next = spent;
            long[] paid = costs;
            costs = costsNext;
            costsNext = paid;
        }

        private void spread(Reader reader, Row row, int i, int spot) {
            int cost = costOf(costs, spot);
            for (int letter = 0; letter < LETTERS; letter++) {
                int end = reader.end(spot, letter);
                for (int k = reader.begin(spot, letter); k < end; k++) {
                    int move = reader.moveAt(k);
                    if (letter == row.letter(i)) {
                        come(reader.after(spot, move, row.id(i)), i + 1, cost);
                    }
                    spreadChanged(reader, spot, move, i + 1, cost + 1);
                }
            }
        }

        private void spreadChanged(Reader reader, int spot, int move, int behind, int cost) {
            int test = reader.part(move, TEST);
            if (test < NEW) {
                int name = Reader.heldIn(spot, test);
                if (name > 0) {
                    come(reader.after(spot, move, name), behind, cost);
                }
                return;
            }
            come(reader.after(spot, move, FRESH), behind, cost);
            if (reader.part(move, KEEPS) < 0) {
                return;
            }
            for (int name = 1; name < OTHER; name++) {
                if ((wanted[behind] >> name & 1) != 0) {
                    come(reader.after(spot, move, name), behind, cost);
                }
            }
        }

        private void come(int to, int behind, int cost) {
            if (to < 0) {
                return;
            }
            int spot = Reader.settle(to, alive[behind], OTHER);
            if (next.add(spot) || cost < costOf(costsNext, spot)) {
                setCost(costsNext, spot, cost);
            }
        }

        private static int costOf(long[] costs, int spot) {
            return (int) (costs[spot >> 4] >> ((spot & 15) << 2) & 15);
        }

        private static void setCost(long[] costs, int spot, int cost) {
            int shift = (spot & 15) << 2;
            costs[spot >> 4] = costs[spot >> 4] & ~(15L << shift) | (long) cost << shift;
        }
    }

    /** Shapes that one of two readers takes and the other one does not, in their order. */
    private static final class ShapeSearch {
        private static final int NAME_BITS = 8;
        private final Spots[] sets;
        private final int[] pairs = new int[SHAPE_PAIRS];
        private Reader reader;
        private Reader other;
        private int length = 0;
        private int letters = 0;
        private int goal = 0;
        private int seen = 0;

        ShapeSearch(Spots[] sets, Reader blank) {
            this.sets = sets;
            reader = blank;
            other = blank;
        }

        /** How many shapes there are, behind a search for one that is beyond them all. */
        int passed() {
            return seen;
        }

        /** Whether there is such a shape of n pairs, number i. */
        boolean find(Reader theReader, Reader theOther, int n, int l, int i) {
            reader = theReader;
            other = theOther;
            length = n;
            letters = l;
            goal = i;
            seen = 0;
            if (length == 0) {
                seen = reader.takesAt(0) != other.takesAt(0) ? 1 : 0;
                return goal < seen;
            }
            setOf(0).startAt(0);
            otherSetOf(0).startAt(0);
            return goOn(0, 0);
        }

        int pairAt(int k) {
            return pairs[k];
        }

        private Spots setOf(int depth) {
            return sets[depth];
        }

        private Spots otherSetOf(int depth) {
            return sets[SHAPE_PAIRS + depth];
        }

        private boolean goOn(int depth, int used) {
            if (depth >= length - 1) {
                return end(depth, used);
            }
            for (int letter = 0; letter < letters; letter++) {
                for (int name = 0; name <= used; name++) {
                    setOf(depth + 1).follow(reader, setOf(depth), letter, name + 1, ALL);
                    otherSetOf(depth + 1).follow(other, otherSetOf(depth), letter, name + 1, ALL);
                    pairs[depth] = 16 * letter + name;
                    boolean open = setOf(depth + 1).size() + otherSetOf(depth + 1).size() > 0;
                    if (open && goOn(depth + 1, name == used ? used + 1 : used)) {
                        return true;
                    }
                }
            }
            return false;
        }

        private boolean end(int depth, int used) {
            int bits = endings(reader, setOf(depth), used) ^ endings(other, otherSetOf(depth), used);
            int many = Integer.bitCount(bits);
            if (goal - seen >= many) {
                seen += many;
                return false;
            }
            for (int left = goal - seen; left > 0; left--) {
                bits &= bits - 1;
            }
            int bit = Integer.bitCount((bits & -bits) - 1);
            pairs[depth] = 16 * (bit / NAME_BITS) + bit % NAME_BITS;
            return true;
        }

        /** The last pairs with which a row is taken: letters, and for each the names 0 .. used, by bits in their order. */
        private int endings(Reader one, Spots spots, int used) {
            int all = (2 << used) - 1;
            int every = 0;
            for (int letter = 0; letter < letters; letter++) {
                every |= all << letter * NAME_BITS;
            }
            int bits = 0;
            for (int spot = spots.next(0), left = spots.size(); left > 0 && spot >= 0 && bits != every; left--) {
                for (int letter = 0; letter < letters; letter++) {
                    int end = one.end(spot, letter);
                    for (int k = one.begin(spot, letter); k < end; k++) {
                        int move = one.moveAt(k);
                        if (one.takesBehind(move)) {
                            bits |= namesFor(one.part(move, TEST), spot, all) << letter * NAME_BITS;
                        }
                    }
                }
                spot = spots.next(spot + 1);
            }
            return bits;
        }

        private static int namesFor(int test, int spot, int all) {
            if (test == ANY) {
                return all;
            }
            if (test == NEW) {
                return all & ~(bitOf(spot, 0) | bitOf(spot, 1) | bitOf(spot, 2));
            }
            return bitOf(spot, test);
        }

        /** None for an empty register. */
        private static int bitOf(int spot, int register) {
            return 1 << (spot >> (register << 2) & 15) >> 1;
        }
    }

    /**
     * What a reader can come to by rows of any length. Of the names in its registers it matters alone which are alike:
     * a PLACE is a state and that, two bits for each register, numbered as they come first.
     */
    private static final class Outlook {
        private static final int PLACES = STATES << 6, UNSEEN = -2;
        /** How many pairs lead from a place to where the reader takes; NONE; UNSEEN: it is never there. */
        private final int[] away = new int[PLACES];
        private final int[] seen = new int[PLACES];
        private final int[] pairs = new int[PAIRS];
        private int howManySeen = 0;
        private Spots now;
        private Spots next;

        Outlook(Spots now, Spots next) {
            this.now = now;
            this.next = next;
        }

        int shortest(Reader reader) {
            study(reader);
            return away[0];
        }

        /** Behind shortest(), which has told the length. */
        int firstPair(Reader reader, int length, int k) {
            now.startAt(0);
            int used = 0;
            for (int i = 0; i <= k && i < PAIRS; i++) {
                used = Math.max(used, choosePair(reader, i, used, length - i - 1));
            }
            return pairs[k];
        }

        /** The first pair behind which so many are enough: how many names there are up to its own. */
        private int choosePair(Reader reader, int i, int used, int rest) {
            for (int letter = 0; letter < LETTERS; letter++) {
                for (int name = 1; name <= used + 1; name++) {
                    followTo(reader, letter, name, rest);
                    if (next.size() > 0) {
                        Spots spent = now;
                        now = next;
                        next = spent;
                        pairs[i] = 16 * letter + name - 1;
                        return name;
                    }
                }
            }
            return 0;
        }

        private void followTo(Reader reader, int letter, int name, int rest) {
            next.clear();
            for (int spot = now.next(0), left = now.size(); left > 0 && spot >= 0; left--) {
                int end = reader.end(spot, letter);
                for (int k = reader.begin(spot, letter); k < end; k++) {
                    int to = reader.after(spot, reader.moveAt(k), name);
                    if (to >= 0 && away[placeOf(to)] == rest) {
                        next.add(to);
                    }
                }
                spot = now.next(spot + 1);
            }
        }

        int neverMade(Reader reader) {
            study(reader);
            int made = 0;
            for (int i = 0; i < howManySeen; i++) {
                int spot = spotOf(seen[i]);
                int end = reader.end(spot, LETTERS - 1);
                for (int k = reader.begin(spot, 0); k < end; k++) {
                    int move = reader.moveAt(k);
                    for (int name = newName(spot); name > 0; name--) {
                        int to = reader.after(spot, move, name);
                        if (to >= 0 && away[placeOf(to)] >= 0) {
                            made |= 1 << move;
                        }
                    }
                }
            }
            return (1 << reader.size()) - 1 & ~made;
        }

        int twoAtOnce(Reader reader) {
            study(reader);
            int best = NONE;
            for (int i = 0; i < howManySeen; i++) {
                int spot = spotOf(seen[i]);
                for (int letter = 0; letter < LETTERS; letter++) {
                    for (int name = newName(spot); name > 0; name--) {
                        int two = firstTwo(reader, spot, letter, name);
                        best = two >= 0 && (best < 0 || two < best) ? two : best;
                    }
                }
            }
            return best;
        }

        private static int firstTwo(Reader reader, int spot, int letter, int name) {
            int lesser = NONE;
            int end = reader.end(spot, letter);
            for (int k = reader.begin(spot, letter); k < end; k++) {
                int move = reader.moveAt(k);
                if (reader.after(spot, move, name) >= 0) {
                    if (lesser >= 0) {
                        return 32 * lesser + move;
                    }
                    lesser = move;
                }
            }
            return NONE;
        }

        private void study(Reader reader) {
            for (int place = 0; place < PLACES; place++) {
                away[place] = UNSEEN;
            }
            howManySeen = 0;
            see(reader, 0);
            for (int i = 0; i < howManySeen && i < PLACES; i++) {
                seeBehind(reader, spotOf(seen[i]));
            }
            boolean more = true;
            for (int rest = 0; more && rest < PLACES; rest++) {
                more = tellAhead(reader, rest);
            }
        }

        private void see(Reader reader, int place) {
            if (away[place] == UNSEEN && howManySeen < PLACES) {
                away[place] = reader.takesAt(spotOf(place)) ? 0 : NONE;
                seen[howManySeen] = place;
                howManySeen++;
            }
        }

        private void seeBehind(Reader reader, int spot) {
            int end = reader.end(spot, LETTERS - 1);
            for (int k = reader.begin(spot, 0); k < end; k++) {
                for (int name = newName(spot); name > 0; name--) {
                    int to = reader.after(spot, reader.moveAt(k), name);
                    if (to >= 0) {
                        see(reader, placeOf(to));
                    }
                }
            }
        }

        /** Whether there are places one pair farther away than some number. */
        private boolean tellAhead(Reader reader, int rest) {
            boolean more = false;
            for (int i = 0; i < howManySeen; i++) {
                if (away[seen[i]] == NONE && leadsTo(reader, spotOf(seen[i]), rest)) {
                    away[seen[i]] = rest + 1;
                    more = true;
                }
            }
            return more;
        }

        private boolean leadsTo(Reader reader, int spot, int rest) {
            int end = reader.end(spot, LETTERS - 1);
            for (int k = reader.begin(spot, 0); k < end; k++) {
                for (int name = newName(spot); name > 0; name--) {
                    int to = reader.after(spot, reader.moveAt(k), name);
                    if (to >= 0 && away[placeOf(to)] == rest) {
                        return true;
                    }
                }
            }
            return false;
        }

        /** The least name that no register of a place has; those below it are all there. */
        private static int newName(int spot) {
            return 1 + Math.max(spot & 15, Math.max(spot >> 4 & 15, spot >> 8 & 15));
        }

        private static int placeOf(int spot) {
            int held0 = spot & 15;
            int held1 = spot >> 4 & 15;
            int held2 = spot >> 8 & 15;
            int first = held0 == 0 ? 0 : 1;
            int second = held1 == 0 ? 0 : held1 == held0 ? first : first + 1;
            int third = Math.max(first, second) + 1;
            if (held2 == 0) {
                third = 0;
            } else if (held2 == held0) {
                third = first;
            } else if (held2 == held1) {
                third = second;
            }
            return spot >> STATE_SHIFT << 6 | third << 4 | second << 2 | first;
        }

        private static int spotOf(int place) {
            return place >> 6 << STATE_SHIFT | (place >> 4 & 3) << 8 | (place >> 2 & 3) << 4 | place & 3;
        }
    }

    /**
     * Two readers that read the same row, of any length. Of the names in the six registers it matters alone which are
     * alike: told as they come first, there are 877 such rows of six (0: empty), which are numbered in their order.
     */
    private static final class Meeting {
        private static final int TWO = 2 * REGISTERS, ROWS = 877, PLACES = STATES * STATES * ROWS;
        private final Spots met = new Spots(PLACES);
        private Spots now = new Spots(PLACES);
        private Spots next = new Spots(PLACES);
        /** How many rows go on with so many registers more (times TWO + 1), when so many names have come. */
        private final int[] rows = new int[TWO * (TWO + 1)];
        private final Reader reader;
        private final Reader other;
        private int spot = 0;
        private int otherSpot = 0;
        private int newName = 1;

        Meeting(Reader reader, Reader other) {
            this.reader = reader;
            this.other = other;
            for (int names = 0; names <= TWO; names++) {
                rows[names] = 1;
            }
            for (int more = 1; more < TWO; more++) {
                for (int names = 0; names < TWO - more + 1; names++) {
                    int fewer = (more - 1) * (TWO + 1) + names;
                    rows[more * (TWO + 1) + names] = (names + 1) * rows[fewer] + rows[fewer + 1];
                }
            }
        }

        int shortest() {
            if (reader.takesAt(0) && other.takesAt(0)) {
                return 0;
            }
            met.startAt(0);
            now.startAt(0);
            for (int length = 1; length <= PLACES && now.size() > 0; length++) {
                next.clear();
                for (int place = now.next(0), left = now.size(); left > 0 && place >= 0; left--) {
                    comeTo(place);
                    if (spread()) {
                        return length;
                    }
                    place = now.next(place + 1);
                }
                Spots spent = now;
                now = next;
                next = spent;
            }
            return NONE;
        }

        /** Whether both take behind one pair more. */
        private boolean spread() {
            for (int letter = 0; letter < LETTERS; letter++) {
                for (int name = 1; name <= newName; name++) {
                    int end = reader.end(spot, letter);
                    for (int k = reader.begin(spot, letter); k < end; k++) {
                        int to = reader.after(spot, reader.moveAt(k), name);
                        if (to >= 0 && spreadOther(letter, name, to)) {
                            return true;
                        }
                    }
                }
            }
            return false;
        }

        private boolean spreadOther(int letter, int name, int to) {
            int end = other.end(otherSpot, letter);
            for (int k = other.begin(otherSpot, letter); k < end; k++) {
                int otherTo = other.after(otherSpot, other.moveAt(k), name);
                if (otherTo >= 0) {
                    if (reader.takesAt(to) && other.takesAt(otherTo)) {
                        return true;
                    }
                    int place = placeOf(to, otherTo);
                    if (met.add(place)) {
                        next.add(place);
                    }
                }
            }
            return false;
        }

        private int placeOf(int to, int otherTo) {
            int held = to & HELD | (otherTo & HELD) << STATE_SHIFT;
            int told = 0;
            int names = 0;
            int number = 0;
            for (int i = 0; i < TWO; i++) {
                int shift = (held >> 4 * i & 15) << 2;
                int name = told >> shift & 15;
                if (shift > 0 && name == 0) {
                    name = names + 1;
                    told |= name << shift;
                }
                number += name * rowsBehind(i, names);
                names = Math.max(names, name);
            }
            return ((to >> STATE_SHIFT) * STATES + (otherTo >> STATE_SHIFT)) * ROWS + number;
        }

        private void comeTo(int place) {
            int number = place % ROWS;
            int held = 0;
            int names = 0;
            for (int i = 0; i < TWO; i++) {
                int each = rowsBehind(i, names);
                int name = 0;
                while (name <= names && number >= each) {
                    number -= each;
                    name++;
                }
                held |= name << 4 * i;
                names = Math.max(names, name);
            }
            int states = place / ROWS;
            spot = states / STATES << STATE_SHIFT | held & HELD;
            otherSpot = states % STATES << STATE_SHIFT | held >> STATE_SHIFT;
            newName = names + 1;
        }

        private int rowsBehind(int register, int names) {
            return rows[(TWO - 1 - register) * (TWO + 1) + names];
        }
    }
}
