/**
 * Where the document's sentences end: the least and the greatest that is allowed and what is beside them, the empty and the
 * full. The answers are worked out by hand; that refused calls change nothing, and which refusal comes first, is in Refusals.
 */
public final class Boundaries extends Bench {
    private static final int[] NO_READERS = {-1, 2, 3, LOWEST, HIGHEST};

    public static void main(String[] args) {
        promise = 1; newObject();
        promise = 2; reader();
        promise = 3; write();
        promise = 4; erase();
        promise = 5; faultPlaces(); faultTokens(); faultNumbers();
        promise = 6; moves();
        promise = 7; move();
        promise = 8; drop();
        promise = 9; pair();
        promise = 10; change();
        promise = 11; hush();
        promise = 12; taken(); tests();
        promise = 13; may();
        promise = 14; runs();
        promise = 15; run();
        promise = 16; shapes();
        promise = 17; shape();
        promise = 18; least();
        promise = 19; first();
        promise = 20; useless();
        promise = 21; twofold();
        promise = 22; both();
        promise = 23; parted();
        promise = 24; fillings();
        promise = 25; filled();
        promise = 26; mend();
        promise = 27; count();
        emptyAtFirst();
        promise = 14; namesThatComeAgain();
        promise = 18; eachRegister();
        promise = 21; registersAlike();
        promise = 22; registersOfBoth();
        promise = 26; mendByEachRegister();
        newBehindOld();
        end();
    }

    /** A row of n pairs a0 a1 a2 and so on. */
    private static String unlike(int n) {
        StringBuilder b = new StringBuilder();
        for (int i = 0; i < n; i++) b.append(" a").append(i);
        return b.substring(Math.min(1, n));
    }

    /** A text of n bytes. */
    private static void fill(NameReaders x, int n) {
        x.erase();
        Bench.write(x, " ".repeat(n));
        due("bytes", x.count(3), n);
    }

    private static void newObject() {
        for (int r = 0; r < 2; r++) {
            NameReaders x = new NameReaders();
            due("one state", x.may(r, 0), 1);
            due("takes nothing", x.shapes(r, 0, 1), 0);
            due("no move", x.drop(r, 0), UNKNOWN);
            due("no text", x.moves(r), NOT);
            due("no pair", x.change(0, 0, 0), UNKNOWN);
            due("no pair behind it", x.may(r, 1), OUTSIDE);
            faultOf(x, r, "0 a any to 0", NONE);
            due("a move", x.moves(r), 1);
            due("takes nothing", x.least(r), NONE);
            faultOf(x, r, "0 a any to 1", 11);
            faultOf(x, r, "1 a any to 0", 0);
            faultOf(x, r, "0 a is 0 to 0", 7);
            faultOf(x, r, "0 a any keep 0 to 0", 13);
            x.pair(0, 0);
            NameReaders other = new NameReaders();
            for (int what = 0; what < 6; what++) due("another object", other.count(what), 0);
            due("erase", other.erase(), 0);
            due("hush", other.hush(), 0);
        }
    }

    private static void reader() {
        for (int states = 1; states <= 6; states++) {
            NameReaders x = new NameReaders();
            int all = (1 << states) - 1;
            for (int registers = 0; registers <= 3; registers++) {
                due("no state takes", x.reader(1, states, registers, 0), 1);
                due("each state takes", x.reader(1, states, registers, all), 1);
                due("one state more", x.reader(1, states, registers, all + 1), OUTSIDE);
                due("below 0", x.reader(1, states, registers, -1), OUTSIDE);
            }
            for (int bit = 0; bit < 32; bit++) due("bit " + bit, x.reader(0, states, 3, 1 << bit), bit < states ? 1 : OUTSIDE);
            int s = states - 1;
            due("with all", x.reader(0, states, 3, 0), 1);
            faultOf(x, 0, s + " a any to " + s, NONE);
            faultOf(x, 0, states + " a any to 0", 0);
            due("-1 registers", x.reader(0, states, -1, 0), OUTSIDE);
            due("4 registers", x.reader(0, states, 4, 0), OUTSIDE);
        }
        NameReaders x = new NameReaders();
        for (int states : new int[] {0, 7, -1, 32, 33, LOWEST, HIGHEST}) due("states", x.reader(0, states, 0, 0), OUTSIDE);
        for (int registers : new int[] {-1, 4, LOWEST, HIGHEST}) due("registers", x.reader(0, 1, registers, 0), OUTSIDE);
        for (int takes : new int[] {2, 3, LOWEST, HIGHEST}) due("takes", x.reader(0, 1, 0, takes), OUTSIDE);
        for (int r : NO_READERS) due("no such", x.reader(r, 1, 0, 0), UNKNOWN);
        for (int takes : new int[] {64, 127}) due("takes", x.reader(0, 6, 0, takes), OUTSIDE);
        // each reader for itself; text and row stay
        make(x, 0, 2, 1, 2, times(20, "0 a any to 1"));
        make(x, 1, 3, 2, 4, "0 b any to 2");
        Bench.write(x, "0 a");
        row(x, "a1 b2");
        due("again", x.reader(0, 6, 3, 63), 1);
        int[] left = {2, 0, 2, 3, 0, 1};
        for (int what = 0; what < 6; what++) due("count", x.count(what), left[what]);
        due("of the other one", x.move(1, 0, 4), 2);
    }

    private static void write() {
        for (int n = 1; n <= 8; n++) {
            NameReaders x = new NameReaders();
            due("n bytes", x.write(-1L, n), n);
            due("and n", x.write(0L, n), 2 * n);
            fill(x, 150 - n);
            due("to 150", x.write(0L, n), 150);
            due("none more", x.write(0L, 1), FULL);
            fill(x, 151 - n);
            due("to 151", x.write(0L, n), FULL);
            due("as it was", x.count(3), 151 - n);
        }
        NameReaders x = new NameReaders();
        for (int n : new int[] {0, 9, -1, 16, LOWEST, HIGHEST}) due("n", x.write(0L, n), OUTSIDE);
        due("nothing written", x.count(3), 0);
        // "0 a any " has its first byte lowest; what is above byte n - 1 does not count
        due("first of eight", x.write(0x20796e6120612030L, 8), 8);
        due("four of eight", x.write(0xffffffff30206f74L, 4), 12);
        due("one move", x.fault(0), NONE);
        for (int place = 0; place < 8; place++) {
            x.erase();
            x.write(0x2020202020202020L & ~(255L << 8 * place) | 255L << 8 * place, 8);
            due("byte " + place + " is 255", x.fault(0), place);
        }
        for (int value = 0; value < 256; value++) {
            if (value % 64 == 0) x = new NameReaders();
            x.erase();
            x.write(value | 0x6161616161616100L, 1);
            due("byte " + value, x.fault(0), value == ' ' || value == '0' ? 1 : 0);
        }
    }

    private static void erase() {
        NameReaders x = new NameReaders();
        due("empty", x.erase(), 0);
        x.write('x', 1);
        due("one", x.erase(), 1);
        fill(x, 150);
        due("full", x.write(' ', 1), FULL);
        due("full", x.erase(), 150);
        due("empty", x.erase(), 0);
        fill(x, 149);
        due("the last one", x.write(' ', 1), 150);
    }

    private static void faultPlaces() {
        NameReaders x = new NameReaders();
        for (int r : NO_READERS) due("no such", x.fault(r), UNKNOWN);
        String move = "0 a any to 0";
        faultOf(x, 0, "", 0);
        faultOf(x, 0, " ", 1);
        faultOf(x, 0, " ".repeat(150), 150);
        faultOf(x, 0, " ".repeat(138) + move, NONE);
        faultOf(x, 0, move + " ".repeat(138), NONE);
        faultOf(x, 0, " ".repeat(138) + "0 a any to 1", 149);
        faultOf(x, 0, " ".repeat(137) + move + "!", 149);
        faultOf(x, 0, move + " ".repeat(137) + "!", 149);
        faultOf(x, 0, "0 a any to" + " ".repeat(140), 150);
        x = new NameReaders();
        faultOf(x, 0, " ".repeat(137) + move + ";", 150);
        faultOf(x, 0, "!" + " ".repeat(149), 0);
        faultOf(x, 0, "0".repeat(150), 0);
        faultOf(x, 0, "a".repeat(150), 0);
        faultOf(x, 0, "0" + "a".repeat(149), 1);
        faultOf(x, 0, "0 a any to " + "0".repeat(139), 11);
        faultOf(x, 0, ";".repeat(150), 0);
        // fifteen moves, and a fault in the last of them
        String most = "0a is0to0;".repeat(14) + "0a is0to0";
        x = new NameReaders();
        x.reader(0, 1, 1, 0);
        x.reader(1, 1, 1, 0);
        faultOf(x, 0, most, NONE);
        faultOf(x, 0, most + ";", 150);
        faultOf(x, 0, most + " ", NONE);
        faultOf(x, 0, most + "0", 148);
        faultOf(x, 1, most.substring(0, 148) + "1", 148);
        // wherever a move is cut off
        x = new NameReaders();
        x.reader(1, 1, 1, 0);
        String whole = "0 a is 0 keep 0 to 0";
        int[] want = {0, 1, 2, 3, 4, 4, 6, 7, 8, 9, 9, 9, 9, 13, 14, 15, 16, 16, 18, 19, NONE};
        for (int n = 0; n <= whole.length(); n++) faultOf(x, 1, whole.substring(0, n), want[n]);
        x = new NameReaders();
        x.reader(1, 1, 1, 0);
        for (int n = 0; n <= whole.length(); n++) faultOf(x, 1, "0a any to0;" + whole.substring(0, n), want[n] < 0 ? NONE : 11 + want[n]);
    }

    private static void faultTokens() {
        NameReaders x = new NameReaders();
        x.reader(0, 1, 1, 0);
        // words that are not quite those
        for (String word : "ne neww nev mew New an anyy ana i iss it si keep to a 0 ;".split(" ")) {
            faultOf(x, 0, "0 a " + word + " 0 to 0", 4);
        }
        faultOf(x, 0, "0 a any_ to 0", 7);
        x = new NameReaders();
        x.reader(0, 1, 1, 0);
        for (String word : "kee keeps keap new t too ot a 0 ;".split(" ")) {
            faultOf(x, 0, "0 a any " + word + " 0 to 0", 8);
        }
        x = new NameReaders();
        x.reader(0, 1, 1, 0);
        for (String word : "d z A aa ab ba abc 0 ; is".split(" ")) {
            faultOf(x, 0, "0 " + word + " any to 0", 2);
        }
        for (String word : "a b c".split(" ")) faultOf(x, 0, "0 " + word + " any to 0", NONE);
        // bytes beside small letters, digits and the blank are tokens of their own
        x = new NameReaders();
        for (int sign : new int[] {'`', '{', 'A', 'Z', '/', ':', 0, 9, 10, 31, 33, 127, 128, 160, 255}) {
            faultOf(x, 0, "0" + (char) sign + "a any to 0", 1);
            faultOf(x, 0, "0 a" + (char) sign + "any to 0", 3);
            faultOf(x, 0, "0 a any to 0" + (char) sign, 12);
        }
        // between moves there is one ; and nothing else
        x = new NameReaders();
        faultOf(x, 0, "0 a any to 0;0 a any to 0", NONE);
        faultOf(x, 0, "0 a any to 0 ; 0 a any to 0", NONE);
        faultOf(x, 0, "0 a any to 0 0 a any to 0", 13);
        faultOf(x, 0, "0 a any to 0:0 a any to 0", 12);
        faultOf(x, 0, "0 a any to 0<0 a any to 0", 12);
        faultOf(x, 0, "0 a any to 0;;0 a any to 0", 13);
        faultOf(x, 0, "0 a any to 0; ;0 a any to 0", 14);
        faultOf(x, 0, "0 a any to;0", 10);
        faultOf(x, 0, "0;a any to 0", 1);
        // tokens end by themselves: blanks need not be where kinds change, and may be many
        x = new NameReaders();
        x.reader(0, 1, 1, 0);
        faultOf(x, 0, "0a new keep0to0", NONE);
        faultOf(x, 0, "0a is0keep0to0", NONE);
        faultOf(x, 0, "0anew to 0", 1);
        faultOf(x, 0, "0a newto 0", 3);
        faultOf(x, 0, "0a newkeep 0 to 0", 3);
        faultOf(x, 0, "0a new ke ep 0 to 0", 7);
        faultOf(x, 0, "   0   a   new   keep   0   to   0   ", NONE);
    }

    private static void faultNumbers() {
        for (int states = 1; states <= 6; states++) {
            NameReaders x = new NameReaders();
            x.reader(0, states, 0, 0);
            for (int s = 0; s <= 9; s++) {
                faultOf(x, 0, s + " a any to 0", s < states ? NONE : 0);
                faultOf(x, 0, "0 a any to " + s, s < states ? NONE : 11);
            }
        }
        for (int registers = 0; registers <= 3; registers++) {
            NameReaders x = new NameReaders();
            x.reader(1, 6, registers, 0);
            for (int r = 0; r <= 9; r++) {
                faultOf(x, 1, "0 a is " + r + " to 0", r < registers ? NONE : 7);
                faultOf(x, 1, "0 a any keep " + r + " to 0", r < registers ? NONE : 13);
            }
        }
        // of more than one digit, also where its worth would be fine
        NameReaders x = new NameReaders();
        x.reader(0, 6, 3, 0);
        for (String number : "00 01 000 10 4294967296".split(" ")) {
            faultOf(x, 0, number + " a any to 0", 0);
            faultOf(x, 0, "0 a is " + number + " to 0", 7);
            faultOf(x, 0, "0 a any keep " + number + " to 0", 13);
            faultOf(x, 0, "0 a any to " + number, 11);
        }
        // as the reader for which it is asked is now
        x = new NameReaders();
        x.reader(0, 2, 1, 0);
        faultOf(x, 0, "1 a is 0 to 1", NONE);
        due("for the other one", x.fault(1), 0);
        x.reader(1, 2, 0, 0);
        due("for the other one", x.fault(1), 7);
        x.reader(0, 1, 1, 0);
        due("now", x.fault(0), 0);
    }

    private static void moves() {
        String two = "0 a any to 0;0 b any to 0";
        String most = "0a is0to0;".repeat(14) + "0a is0to0";
        NameReaders x = new NameReaders();
        for (int r : NO_READERS) due("no such", x.moves(r), UNKNOWN);
        x.reader(0, 1, 1, 0);
        Bench.write(x, most);
        due("fifteen", x.moves(0), 15);
        due("the text is empty", x.count(3), 0);
        due("and has a fault", x.moves(0), NOT);
        Bench.write(x, "0a is0to0;".repeat(5) + "0a is0to0");
        due("to 21", x.moves(0), FULL);
        due("as it was", x.count(4), 15);
        x.erase();
        Bench.write(x, "0c is0to0;".repeat(4) + "0b is0to0");
        due("to 20", x.moves(0), 20);
        due("behind", x.move(0, 14, 1), 0);
        due("behind", x.move(0, 15, 1), 2);
        due("the last one", x.move(0, 19, 1), 1);
        Bench.write(x, "0 c any to 0");
        due("to 21", x.moves(0), FULL);
        due("the text stays", x.count(3), 12);
        due("and is fine", x.fault(0), NONE);
        due("for the other one", x.moves(1), 1);
        x.drop(0, 0);
        Bench.write(x, two);
        due("19 and 2", x.moves(0), FULL);
        x.erase();
        Bench.write(x, "0 b any to 0");
        due("19 and 1", x.moves(0), 20);
        // a reader that is full and gets other states is empty
        x.reader(0, 1, 1, 0);
        Bench.write(x, two);
        due("behind none", x.moves(0), 2);
    }

    private static void move() {
        NameReaders x = new NameReaders();
        x.reader(0, 6, 3, 0);
        for (int i = 0; i < 20; i++) {
            Bench.write(x, i % 6 + "abc".substring(i % 3, i % 3 + 1) + " " + (i % 5 < 3 ? "is" + i % 5 : i % 5 == 3 ? "new" : "any")
                + (i % 4 < 3 ? " keep " + i % 4 : "") + " to " + (5 - i % 6));
            due("one more", x.moves(0), i + 1);
        }
        for (int i = 0; i < 20; i++) {
            due("from", x.move(0, i, 0), i % 6);
            due("letter", x.move(0, i, 1), i % 3);
            due("test", x.move(0, i, 2), i % 5);
            due("keeps", x.move(0, i, 3), i % 4 < 3 ? i % 4 : NONE);
            due("to", x.move(0, i, 4), 5 - i % 6);
        }
        for (int move : new int[] {-1, 20, 21, LOWEST, HIGHEST}) due("no such", x.move(0, move, 0), UNKNOWN);
        for (int what : new int[] {-1, 5, 6, LOWEST, HIGHEST}) due("what", x.move(0, 19, what), OUTSIDE);
        for (int r : NO_READERS) due("no such", x.move(r, 0, 0), UNKNOWN);
        due("the other one has none", x.move(1, 0, 0), UNKNOWN);
        x.drop(0, 0);
        due("19 are left", x.move(0, 18, 0), 1);
        due("19 are left", x.move(0, 19, 0), UNKNOWN);
    }

    private static void drop() {
        NameReaders x = new NameReaders();
        x.reader(0, 6, 0, 0);
        for (int i = 0; i < 20; i++) {
            Bench.write(x, i % 6 + " a any to " + i / 6);
            x.moves(0);
        }
        for (int move : new int[] {-1, 20, 21, LOWEST, HIGHEST}) due("no such", x.drop(0, move), UNKNOWN);
        for (int r : NO_READERS) due("no such", x.drop(r, 0), UNKNOWN);
        due("the last", x.drop(0, 19), 19);
        due("no more", x.drop(0, 19), UNKNOWN);
        due("the first", x.drop(0, 0), 18);
        due("in the middle", x.drop(0, 9), 17);
        // 1 .. 9, 11 .. 18 are left
        for (int i = 0; i < 17; i++) due("which", x.move(0, i, 0) + 6 * x.move(0, i, 4), i < 9 ? i + 1 : i + 2);
        for (int left = 16; left >= 0; left--) due("all", x.drop(0, 0), left);
        due("none", x.drop(0, 0), UNKNOWN);
        Bench.write(x, "5 c any to 5");
        due("one again", x.moves(0), 1);
        due("one again", x.drop(0, 0), 0);
        // a move that is no more is not made
        make(x, 1, 2, 0, 2, "0 a any to 1", "0 b any to 1");
        row(x, "b1");
        due("made", x.run(1, 0), 1);
        x.drop(1, 0);
        due("with a number less", x.run(1, 0), 0);
        x.drop(1, 0);
        due("no more", x.taken(1), 0);
    }

    private static void pair() {
        NameReaders x = new NameReaders();
        int many = 0;
        for (int letter = -1; letter <= 2; letter++) {
            for (int name : new int[] {-1, 0, 99}) due("allowed", x.pair(letter, name), ++many);
        }
        due("twelve", x.count(0), 12);
        due("thirteen", x.pair(0, 0), FULL);
        due("thirteen", x.pair(-1, -1), FULL);
        due("still twelve", x.hush(), 12);
        for (int letter : new int[] {-2, 3, LOWEST, HIGHEST}) due("letter", x.pair(letter, 0), OUTSIDE);
        for (int name : new int[] {-2, 100, LOWEST, HIGHEST}) due("name", x.pair(0, name), OUTSIDE);
        due("both", x.pair(3, 100), OUTSIDE);
        due("nothing came", x.count(0), 0);
        // names are unlike up to the last
        make(x, 0, 1, 1, 1, "0 a new keep 0 to 0", "0 b is 0 to 0");
        row(x, "a99 b99 a98 b98 a0 b0");
        due("taken", x.taken(0), 1);
    }

    private static void change() {
        NameReaders x = new NameReaders();
        for (int pair : new int[] {0, -1, 1, LOWEST, HIGHEST}) due("no pairs", x.change(pair, 0, 0), UNKNOWN);
        row(x, unlike(12));
        for (int pair : new int[] {-1, 12, 13, LOWEST, HIGHEST}) due("no such", x.change(pair, 0, 0), UNKNOWN);
        due("the first", x.change(0, 2, 99), 1);
        due("the last", x.change(11, 2, 99), 1);
        due("eleven names", x.count(2), 11);
        for (int letter : new int[] {-2, 3, LOWEST, HIGHEST}) due("letter", x.change(11, letter, 0), OUTSIDE);
        for (int name : new int[] {-2, 100, LOWEST, HIGHEST}) due("name", x.change(11, 0, name), OUTSIDE);
        due("both gaps", x.change(11, -1, -1), 1);
        due("gaps", x.count(1), 2);
        due("no gap any more", x.change(11, 0, 0), 1);
        due("gaps", x.count(1), 0);
        due("as many", x.count(0), 12);
        makeOpen(x, 0);
        due("the first", x.filled(0, 0), 256 + 99);
        for (int k = 1; k < 11; k++) due("others stay", x.filled(0, k), k);
        due("the last", x.filled(0, 11), 0);
        due("into the same", x.change(11, 0, 0), 1);
        due("the same", x.filled(0, 11), 0);
    }

    private static void hush() {
        NameReaders x = new NameReaders();
        due("none", x.hush(), 0);
        x.pair(-1, -1);
        due("one", x.hush(), 1);
        row(x, unlike(12));
        due("full", x.pair(0, 0), FULL);
        due("twelve", x.hush(), 12);
        for (int what = 0; what < 3; what++) due("empty", x.count(what), 0);
        due("none", x.change(0, 0, 0), UNKNOWN);
        due("may", x.may(0, 1), OUTSIDE);
        due("one again", x.pair(1, 1), 1);
        due("one name", x.count(2), 1);
        // behind gaps
        row(x, "?? ?? ?? ??");
        due("gaps", x.fillings(0), NOT);
        x.hush();
        due("no gaps", x.taken(0), 0);
        due("no gaps", x.fillings(0), 0);
    }

    private static void taken() {
        NameReaders x = new NameReaders();
        for (int r : NO_READERS) due("no such", x.taken(r), UNKNOWN);
        due("no pairs, none takes", x.taken(0), 0);
        x.reader(0, 6, 3, 62);
        due("all but state 0", x.taken(0), 0);
        x.reader(0, 6, 3, 1);
        due("state 0", x.taken(0), 1);
        row(x, "a0");
        due("no moves", x.taken(0), 0);
        makeChain(x, 0, 5);
        for (int n = 0; n <= 12; n++) {
            row(x, unlike(n));
            due("five alone", x.taken(0), n == 5 ? 1 : 0);
        }
        makeOpen(x, 1);
        due("twelve", x.taken(1), 1);
        for (int gap : new int[] {0, 5, 11}) {
            x.change(gap, -1, 7);
            due("no letter", x.taken(1), NOT);
            x.change(gap, 1, -1);
            due("no name", x.taken(1), NOT);
            x.change(gap, -1, -1);
            due("neither", x.taken(1), NOT);
            x.change(gap, 2, 99);
            due("filled", x.taken(1), 1);
        }
    }

    private static void tests() {
        NameReaders x = new NameReaders();
        for (int r = 0; r < 3; r++) {
            make(x, 0, 2, 3, 2, "0 a is " + r + " to 1");
            row(x, "a0");
            due("an EMPTY register has no name", x.taken(0), 0);
            make(x, 0, 2, 3, 2, "0 b any keep " + r + " to 0", "0 a is " + r + " to 1");
            row(x, "b0 a0");
            due("register " + r + " has 0", x.taken(0), 1);
            row(x, "b0 a99");
            due("register " + r + " has 0, not 99", x.taken(0), 0);
            row(x, "b0 b99 a0");
            due("register " + r + " has 99 from then on", x.taken(0), 0);
            make(x, 0, 2, 3, 2, "0 b any keep " + r + " to 0", "0 a new to 1");
            row(x, "a0");
            due("all are EMPTY", x.taken(0), 1);
            row(x, "b0 a0");
            due("in register " + r, x.taken(0), 0);
            row(x, "b0 a1");
            due("in no register", x.taken(0), 1);
        }
        x = new NameReaders();
        // the test is ahead of the keeping
        make(x, 0, 2, 1, 2, "0 a is 0 keep 0 to 1");
        row(x, "a0");
        due("EMPTY", x.taken(0), 0);
        make(x, 0, 1, 1, 1, "0 a new keep 0 to 0");
        row(x, "a0 a1 a0 a1");
        due("the one ahead alone is kept", x.taken(0), 1);
        row(x, "a0 a1 a1");
        due("kept", x.taken(0), 0);
        // one name in two registers; one of them gets another
        make(x, 0, 3, 2, 4, "0 a any keep 0 to 1", "1 a is 0 keep 1 to 1", "1 b new keep 0 to 1", "1 c is 1 to 2");
        row(x, "a5 a5 b6 c5");
        due("register 1 has it still", x.taken(0), 1);
        row(x, "a5 b6 c5");
        due("register 1 is EMPTY", x.taken(0), 0);
        row(x, "a5 a5 b5 c5");
        due("not new", x.taken(0), 0);
        // any
        make(x, 0, 1, 1, 1, "0 a any keep 0 to 0");
        row(x, "a5 a5 a6 a5");
        due("in any case", x.taken(0), 1);
        row(x, "a5 b5");
        due("not by another letter", x.taken(0), 0);
    }

    private static void may() {
        NameReaders x = new NameReaders();
        for (int r : NO_READERS) due("no such", x.may(r, 0), UNKNOWN);
        for (int k : new int[] {-1, 1, LOWEST, HIGHEST}) due("k", x.may(0, k), OUTSIDE);
        x.reader(0, 6, 3, 0);
        due("state 0", x.may(0, 0), 1);
        make(x, 0, 6, 0, 0, "0 a any to 0", "0 a any to 1", "1 a any to 2", "2 a any to 3", "3 a any to 4", "4 a any to 5");
        row(x, unlike(12));
        int[] want = {1, 3, 7, 15, 31, 63, 63, 63, 63, 63, 63, 63, 63};
        for (int k = 0; k <= 12; k++) due("behind " + k, x.may(0, k), want[k]);
        due("thirteen", x.may(0, 13), OUTSIDE);
        due("-1", x.may(0, -1), OUTSIDE);
        x.drop(0, 0);
        for (int k = 0; k <= 12; k++) due("behind " + k, x.may(0, k), k < 6 ? 1 << k : 0);
        for (int gap : new int[] {0, 11}) {
            x.change(gap, 0, -1);
            due("ahead of it", x.may(0, 0), NOT);
            due("behind it", x.may(0, 12), NOT);
            x.change(gap, -1, 0);
            due("ahead of it", x.may(0, 0), NOT);
            due("behind it", x.may(0, 12), NOT);
            x.change(gap, 0, 0);
        }
        due("without", x.may(0, 5), 32);
    }

    private static void runs() {
        NameReaders x = new NameReaders();
        for (int r : NO_READERS) due("no such", x.runs(r), UNKNOWN);
        due("no pairs, none takes", x.runs(0), 0);
        x.reader(0, 1, 0, 1);
        due("no pairs: one run without moves", x.runs(0), 1);
        // b a a a a a a a a a: ten for each a, and one run that stays in state 1
        make(x, 0, 3, 0, 3, times(10, "0 a any to 0"));
        for (String move : new String[] {"0 b any to 0", "0 b any to 2", "1 a any to 1", "2 a any to 1"}) {
            Bench.write(x, move);
            x.moves(0);
        }
        row(x, "b0 a0 a0 a0 a0 a0 a0 a0 a0 a0");
        due("10^9 + 1", x.runs(0), MANY);
        x.drop(0, 11);
        due("10^9", x.runs(0), 1000000000);
        Bench.write(x, "0 b any to 2;0 b any to 2");
        x.moves(0);
        due("10^9 + 2", x.runs(0), MANY);
        x = new NameReaders();
        make(x, 0, 1, 0, 1, times(20, "0 a any to 0"));
        long all = 1;
        for (int n = 0; n <= 12; n++) {
            row(x, unlike(n));
            due("20^" + n, x.runs(0), Math.min(all, MANY));
            all *= 20;
        }
        for (int gap : new int[] {0, 11}) {
            x.change(gap, 0, -1);
            due("no name", x.runs(0), NOT);
            x.change(gap, -1, 0);
            due("no letter", x.runs(0), NOT);
            x.change(gap, 0, 0);
        }
        due("filled", x.runs(0), MANY);
        x.reader(0, 1, 0, 1);
        due("no moves", x.runs(0), 0);
    }

    private static void run() {
        NameReaders x = new NameReaders();
        for (int r : NO_READERS) due("no such", x.run(r, 0), UNKNOWN);
        for (int k : new int[] {-1, -2, LOWEST}) due("k", x.run(0, k), OUTSIDE);
        due("no pairs", x.run(0, 0), NONE);
        x.reader(0, 1, 0, 1);
        due("a run without moves", x.run(0, 0), NONE);
        make(x, 0, 2, 0, 3, times(19, "1 a any to 1"));
        Bench.write(x, "0 a any to 0");
        x.moves(0);
        row(x, unlike(12));
        due("the last move", x.run(0, 0), 19);
        due("the last pair", x.run(0, 11), 19);
        due("behind it", x.run(0, 12), NONE);
        due("far", x.run(0, HIGHEST), NONE);
        x.change(11, 0, -1);
        due("a gap, far", x.run(0, HIGHEST), NOT);
        x.change(11, 1, 0);
        due("not taken", x.run(0, 0), NONE);
        // the first move that is unlike counts, not the last; the move ahead may not lead on
        make(x, 0, 4, 0, 8, "2 a any to 3", "0 a any to 1", "0 a any to 2", "1 b any to 3");
        row(x, "a0 a0");
        due("move 1 leads nowhere", x.run(0, 0), 2);
        due("then", x.run(0, 1), 0);
        row(x, "a0 b0");
        due("move 1", x.run(0, 0), 1);
        due("then", x.run(0, 1), 3);
    }

    private static void shapes() {
        NameReaders x = new NameReaders();
        for (int r : NO_READERS) due("no such", x.shapes(r, 0, 1), UNKNOWN);
        for (int n : new int[] {-1, 7, LOWEST, HIGHEST}) due("n", x.shapes(0, n, 1), OUTSIDE);
        for (int l : new int[] {0, 4, -1, LOWEST, HIGHEST}) due("l", x.shapes(0, 0, l), OUTSIDE);
        for (int l = 1; l <= 3; l++) {
            due("none takes", x.shapes(0, 0, l), 0);
            due("none takes", x.shapes(0, 6, l), 0);
        }
        makeOpen(x, 0);
        for (int l = 1; l <= 3; l++) due("the empty one", x.shapes(0, 0, l), 1);
        due("n = 1", x.shapes(0, 1, 3), 3);
        due("n = 6: 203 shapes of names", x.shapes(0, 6, 1), 203);
        due("l = 2", x.shapes(0, 6, 2), 203 * 64);
        due("l = 3", x.shapes(0, 6, 3), 203 * 729);
        // letters below l
        make(x, 0, 1, 0, 1, "0 c any to 0");
        due("c is 2", x.shapes(0, 6, 2), 0);
        due("c is 2", x.shapes(0, 6, 3), 203);
        due("the empty one", x.shapes(0, 0, 1), 1);
        // by names alone
        make(x, 0, 6, 3, 32, "0 a new keep 0 to 1", "1 a new keep 1 to 2", "2 a new keep 2 to 3", "3 a new to 4", "4 a any to 5");
        due("3 unlike, a fourth, any of five", x.shapes(0, 5, 1), 5);
        due("no more", x.shapes(0, 6, 1), 0);
        // the row with its gaps is no matter
        row(x, "?? ?? ?? ??");
        due("as before", x.shapes(0, 5, 1), 5);
        // where a reader may be at several states, or have kept one name or another, each of them counts
        make(x, 0, 4, 0, 8, "0 a any to 1", "0 a any to 2", "1 a any to 3", "2 b any to 3");
        due("a0 a0, a0 a1, a0 b0, a0 b1", x.shapes(0, 2, 2), 4);
        make(x, 0, 3, 1, 4, "0 a any to 0", "0 a any keep 0 to 1", "1 a any to 1", "1 b is 0 to 2");
        due("a0 a0 b0, a0 a1 b0, a0 a1 b1", x.shapes(0, 3, 2), 3);
    }

    private static void shape() {
        NameReaders x = new NameReaders();
        for (int r : NO_READERS) due("no such", x.shape(r, 0, 1, 0, 0), UNKNOWN);
        for (int n : new int[] {-1, 7, LOWEST, HIGHEST}) due("n", x.shape(0, n, 1, 0, 0), OUTSIDE);
        for (int l : new int[] {0, 4, LOWEST, HIGHEST}) due("l", x.shape(0, 1, l, 0, 0), OUTSIDE);
        for (int i : new int[] {-1, LOWEST}) due("i", x.shape(0, 1, 1, i, 0), OUTSIDE);
        for (int k : new int[] {-1, LOWEST}) due("k", x.shape(0, 1, 1, 0, k), OUTSIDE);
        due("none takes", x.shape(0, 6, 3, 0, 0), NONE);
        due("none takes", x.shape(0, 0, 1, 0, 0), NONE);
        makeOpen(x, 0);
        due("no pairs", x.shape(0, 0, 1, 0, 0), NONE);
        due("far", x.shape(0, 1, 3, HIGHEST, 0), NONE);
        due("far", x.shape(0, 1, 3, 0, HIGHEST), NONE);
        for (int l = 1; l <= 3; l++) {
            due("one pair", x.shape(0, 1, l, l - 1, 0), 16 * (l - 1));
            due("no letter l", x.shape(0, 1, l, l, 0), NONE);
            int all = 203 * (l == 1 ? 1 : l == 2 ? 64 : 729);
            for (int k = 0; k < 6; k++) {
                due("the first", x.shape(0, 6, l, 0, k), 0);
                due("the last", x.shape(0, 6, l, all - 1, k), 16 * (l - 1) + k);
                due("behind it", x.shape(0, 6, l, all, k), NONE);
            }
            due("pair 6", x.shape(0, 6, l, 0, 6), NONE);
            due("pair 6", x.shape(0, 6, l, all - 1, 6), NONE);
        }
        // behind a0: by the letter, then the name, which is 0 or 1
        int[] second = {0, 1, 16, 17, 32, 33};
        for (int i = 0; i < 6; i++) due("second pair", x.shape(0, 2, 3, i, 1), second[i]);
        due("next first pair", x.shape(0, 2, 3, 6, 0), 16);
        due("second pair", x.shape(0, 2, 3, 6, 1), 0);
    }

    private static void least() {
        NameReaders x = new NameReaders();
        for (int r : NO_READERS) due("no such", x.least(r), UNKNOWN);
        x.reader(0, 6, 3, 63);
        due("at once", x.least(0), 0);
        x.reader(0, 6, 3, 62);
        due("without moves", x.least(0), NONE);
        for (int n = 0; n <= 5; n++) {
            makeChain(x, 0, n);
            due("chain", x.least(0), n);
        }
        make(x, 0, 2, 0, 2, "0 a any to 0");
        due("never", x.least(0), NONE);
        x = new NameReaders();
        makeRounds(x, 4);
        due("12", x.least(0), 12);
        makeRounds(x, 4, "4 a any to 5");
        due("13", x.least(0), 13);
        makeRounds(x, 5);
        due("15", x.least(0), 15);
        // an EMPTY register in the way, at any length
        x.drop(0, 5);
        due("register 1 stays EMPTY", x.least(0), NONE);
        row(x, "?? ?? ?? ??");
        due("the row is no matter", x.least(0), NONE);
    }

    private static void first() {
        NameReaders x = new NameReaders();
        for (int r : NO_READERS) due("no such", x.first(r, 0), UNKNOWN);
        for (int k : new int[] {-1, -2, LOWEST}) due("k", x.first(0, k), OUTSIDE);
        due("none", x.first(0, 0), NONE);
        x.reader(0, 1, 0, 1);
        due("no pairs", x.first(0, 0), NONE);
        for (int n = 1; n <= 5; n++) {
            makeChain(x, 0, n);
            due("the first", x.first(0, 0), 0);
            due("the last", x.first(0, n - 1), 0);
            due("behind it", x.first(0, n), NONE);
            due("far", x.first(0, HIGHEST), NONE);
        }
        x = new NameReaders();
        makeRounds(x, 4);
        due("of twelve", x.first(0, 0), 0);
        due("of twelve", x.first(0, 11), 32);
        due("behind it", x.first(0, 12), NONE);
        makeRounds(x, 4, "4 a any to 5");
        for (int k = 0; k <= 13; k++) due("thirteen are too many", x.first(0, k), NONE);
        // three registers can ask for four unlike names
        make(x, 0, 5, 3, 16, "0 c any keep 0 to 1", "1 c new keep 1 to 2", "2 c new keep 2 to 3", "3 c new to 4");
        for (int k = 0; k < 4; k++) due("c" + k, x.first(0, k), 32 + k);
    }

    private static void useless() {
        NameReaders x = new NameReaders();
        for (int r : NO_READERS) due("no such", x.useless(r), UNKNOWN);
        due("no moves", x.useless(0), 0);
        make(x, 0, 2, 1, 1, times(20, "0 a any to 0"));
        due("none of twenty", x.useless(0), 0);
        x.drop(0, 19);
        Bench.write(x, "0 a any to 1");
        x.moves(0);
        due("the last", x.useless(0), 1 << 19);
        x.drop(0, 0);
        due("with a number less", x.useless(0), 1 << 18);
        make(x, 0, 2, 1, 2, times(20, "0 a is 0 to 1"));
        due("all of twenty", x.useless(0), (1 << 20) - 1);
        make(x, 0, 1, 0, 0, "0 a any to 0");
        due("none takes", x.useless(0), 1);
        make(x, 0, 1, 0, 1, "0 a any to 0");
        due("one of use", x.useless(0), 0);
        // from a state that takes to where nothing takes any more
        make(x, 0, 3, 0, 3, "0 a any to 1", "1 a any to 2", "2 a any to 2");
        due("behind the last state that takes", x.useless(0), 6);
        // in rows of more than twelve pairs alone
        makeRounds(x, 5);
        due("fifteen pairs", x.useless(0), 0);
    }

    private static void twofold() {
        NameReaders x = new NameReaders();
        for (int r : NO_READERS) due("no such", x.twofold(r), UNKNOWN);
        due("no moves", x.twofold(0), NONE);
        make(x, 0, 1, 0, 0, "0 a any to 0");
        due("one move", x.twofold(0), NONE);
        make(x, 0, 1, 0, 0, "0 a any to 0", "0 a any to 0");
        due("the first two", x.twofold(0), 1);
        make(x, 0, 2, 0, 0, times(18, "1 a any to 1"));
        Bench.write(x, "0 c new to 0;0 c any to 0");
        x.moves(0);
        due("the last two", x.twofold(0), 32 * 18 + 19);
        x.drop(0, 18);
        due("one of them", x.twofold(0), NONE);
        make(x, 0, 2, 0, 0, times(18, "1 a any to 1"));
        x.drop(0, 0);
        Bench.write(x, "0 c any to 0;0 b any to 0;0 c any to 1");
        x.moves(0);
        due("the lesser counts first", x.twofold(0), 1);
        // at the beginning all registers are EMPTY
        make(x, 0, 1, 1, 1, "0 a is 0 to 0", "0 a any to 0");
        due("EMPTY for ever", x.twofold(0), NONE);
        make(x, 0, 1, 1, 1, "0 a is 0 to 0", "0 a any keep 0 to 0");
        due("then it has one", x.twofold(0), 1);
        make(x, 0, 1, 1, 1, "0 a is 0 to 0", "0 a new keep 0 to 0");
        due("never both", x.twofold(0), NONE);
        make(x, 0, 1, 2, 1, "0 a is 0 to 0", "0 a is 1 to 0", "0 a new keep 0 to 0", "0 b new keep 1 to 0");
        due("never in both registers", x.twofold(0), NONE);
        make(x, 0, 1, 2, 1, "0 a is 0 to 0", "0 a is 1 to 0", "0 a new keep 0 to 0", "0 b any keep 1 to 0");
        due("in both", x.twofold(0), 1);
    }

    private static void both() {
        NameReaders x = new NameReaders();
        due("none takes", x.both(), NONE);
        makeOpen(x, 0);
        due("the other one takes nothing", x.both(), NONE);
        for (int n = 0; n <= 5; n++) {
            makeChain(x, 1, n);
            due("as long as that", x.both(), n);
        }
        makeChain(x, 0, 4);
        due("four and five", x.both(), NONE);
        // rounds of five and of six: 5 i + 4 = 6 j + 5
        x = new NameReaders();
        make(x, 0, 5, 0, 16, "0 a any to 1", "1 a any to 2", "2 a any to 3", "3 a any to 4", "4 a any to 0");
        make(x, 1, 6, 0, 32, "0 a any to 1", "1 a any to 2", "2 a any to 3", "3 a any to 4", "4 a any to 5", "5 a any to 0");
        due("29", x.both(), 29);
        x.drop(1, 5);
        due("never", x.both(), NONE);
        // by one letter and one name at once
        make(x, 0, 2, 0, 2, "0 a any to 1");
        make(x, 1, 2, 0, 2, "0 b any to 1");
        due("letters", x.both(), NONE);
        make(x, 0, 3, 1, 4, "0 a any keep 0 to 1", "1 a is 0 to 2");
        make(x, 1, 3, 1, 4, "0 a any keep 0 to 1", "1 a new to 2");
        due("names", x.both(), NONE);
        make(x, 1, 3, 1, 4, "0 a any keep 0 to 1", "1 a any to 2");
        due("names", x.both(), 2);
        row(x, "?? ?? ?? ??");
        due("the row is no matter", x.both(), 2);
    }

    private static void parted() {
        NameReaders x = new NameReaders();
        for (int n : new int[] {-1, 6, LOWEST, HIGHEST}) due("n", x.parted(n, -1), OUTSIDE);
        for (int k : new int[] {-2, LOWEST}) due("k", x.parted(0, k), OUTSIDE);
        for (int n = 0; n <= 5; n++) {
            due("alike", x.parted(n, -1), NONE);
            due("alike", x.parted(n, 0), NONE);
        }
        for (int length = 0; length <= 5; length++) {
            for (int r = 0; r < 2; r++) {
                x = new NameReaders();
                makeChain(x, r, length);
                for (int n = 0; n <= 5; n++) {
                    due("length " + length + " by " + n, x.parted(n, -1), n < length ? NONE : length);
                    for (int k = 0; k <= 5; k++) due("pair " + k, x.parted(n, k), n < length || k >= length ? NONE : 0);
                }
                due("far", x.parted(5, HIGHEST), NONE);
            }
        }
        x = new NameReaders();
        makeRounds(x, 2);
        due("six pairs", x.least(0), 6);
        due("are too many", x.parted(5, -1), NONE);
        // the greatest: of c0 c1 c2 c3 c3 and c0 c1 c2 c3 c4 the other one takes the first
        x = new NameReaders();
        make(x, 0, 6, 3, 32, "0 c any keep 0 to 1", "1 c new keep 1 to 2", "2 c new keep 2 to 3", "3 c new to 4", "4 c new to 5");
        due("c3 again", x.parted(5, 4), 35);
        make(x, 1, 6, 3, 32, "0 c any keep 0 to 1", "1 c new keep 1 to 2", "2 c new keep 2 to 3", "3 c new keep 0 to 4", "4 c is 0 to 5");
        for (int k = 0; k < 5; k++) due("c" + k, x.parted(5, k), 32 + k);
        due("behind it", x.parted(5, 5), NONE);
        makeOpen(x, 0);
        makeOpen(x, 1);
        due("both take all", x.parted(5, -1), NONE);
        x.drop(1, 2);
        due("c0", x.parted(1, 0), 32);
        due("not by none", x.parted(0, -1), NONE);
    }

    private static void fillings() {
        NameReaders x = new NameReaders();
        for (int r : NO_READERS) due("no such", x.fillings(r), UNKNOWN);
        due("no pairs, none takes", x.fillings(0), 0);
        makeOpen(x, 0);
        due("no pairs", x.fillings(0), 1);
        row(x, unlike(12));
        due("no gaps", x.fillings(0), 1);
        x.change(0, -1, 0);
        due("a letter", x.fillings(0), 3);
        x.change(5, 0, -1);
        due("a name: eleven told, another one", x.fillings(0), 3 * 12);
        x.change(11, -1, -1);
        due("ten told: two of them like or unlike", x.fillings(0), 3 * 3 * (11 * 10 + 12));
        x.change(3, -1, 3);
        due("four", x.fillings(0), NOT);
        x.change(3, 0, -1);
        due("four", x.fillings(0), NOT);
        x.change(11, 0, 3);
        due("three", x.fillings(0), 3 * (11 * 10 + 12));
        // six gaps in three pairs are no more than three pairs
        row(x, "?? ?? ??");
        due("six gaps", x.fillings(0), 27 * 5);
        x.pair(0, 0);
        due("and 0: 1 + 3 + 3 * 2 + 5", x.fillings(0), 27 * 15);
        x.pair(-1, 0);
        due("four", x.fillings(0), NOT);
        x.reader(0, 1, 0, 0);
        due("four, also where none takes", x.fillings(0), NOT);
        row(x, "??");
        due("none takes", x.fillings(0), 0);
        // no letter but a, b, c
        make(x, 0, 2, 0, 2, "0 c any to 1", "1 a any to 1");
        row(x, "?0");
        due("c0", x.fillings(0), 1);
        row(x, "?0 ?0");
        due("c0 a0", x.fillings(0), 1);
        // a name that the row tells far ahead of the gap alone, or far behind it
        make(x, 0, 5, 1, 16, "0 a any keep 0 to 1", "1 a any to 2", "2 a any to 3", "3 b is 0 to 4");
        row(x, "a7 a8 a9 b?");
        due("7", x.fillings(0), 1);
        due("7", x.filled(0, 3), 128 + 7);
        row(x, "a? a8 a9 b7");
        due("7", x.fillings(0), 1);
        due("7", x.filled(0, 0), 7);
    }

    private static void filled() {
        NameReaders x = new NameReaders();
        for (int r : NO_READERS) due("no such", x.filled(r, 0), UNKNOWN);
        for (int k : new int[] {-1, -2, LOWEST}) due("k", x.filled(0, k), OUTSIDE);
        due("no pairs", x.filled(0, 0), NONE);
        makeOpen(x, 0);
        due("no pairs", x.filled(0, 0), NONE);
        row(x, "c99 ?? a0 a1 a2 a3 a4 a5 a6 a7 a8 c99");
        due("the greatest", x.filled(0, 0), 256 + 99);
        due("the least", x.filled(0, 1), 0);
        due("the last", x.filled(0, 11), 256 + 99);
        due("behind it", x.filled(0, 12), NONE);
        due("far", x.filled(0, HIGHEST), NONE);
        x.change(2, -1, 0);
        x.change(3, -1, 1);
        due("three", x.filled(0, 2), 0);
        x.change(4, -1, 2);
        due("four", x.filled(0, 2), NOT);
        due("four, far", x.filled(0, HIGHEST), NOT);
        // others: the least numbers that the row does not tell, as they come
        make(x, 0, 4, 3, 8, "0 a any to 0", "0 b new keep 0 to 1", "1 b new keep 1 to 2", "2 b new keep 2 to 3", "3 c new to 3");
        row(x, "b? b? b? c0 c1 c2 c3 c4 c5 c6 c7 c8");
        for (int k = 0; k < 3; k++) due("9, 10, 11", x.filled(0, k), 128 + 9 + k);
        row(x, "b? b? b? c0 c2 c4 c99");
        for (int k = 0; k < 3; k++) due("1, 3, 5", x.filled(0, k), 128 + 1 + 2 * k);
        row(x, "b? b? b? c1 c2");
        int[] want = {0, 3, 4};
        for (int k = 0; k < 3; k++) due("0, 3, 4", x.filled(0, k), 128 + want[k]);
        x.reader(0, 1, 0, 0);
        due("none takes", x.filled(0, 0), NONE);
        // one that the row tells, though it is greater than another one would be
        make(x, 0, 2, 1, 2, "0 a any keep 0 to 0", "0 b is 0 to 1");
        row(x, "a? b99");
        due("99", x.filled(0, 0), 99);
        row(x, "a99 b?");
        due("99", x.filled(0, 1), 128 + 99);
        row(x, "a? b?");
        due("another one", x.filled(0, 0), 0);
        due("that one", x.filled(0, 1), 128);
    }

    private static void mend() {
        NameReaders x = new NameReaders();
        for (int r : NO_READERS) due("no such", x.mend(r), UNKNOWN);
        due("no pairs, none takes", x.mend(0), NONE);
        x.reader(0, 1, 0, 1);
        due("no pairs", x.mend(0), 0);
        row(x, "a0");
        due("no moves", x.mend(0), NONE);
        makeChain(x, 0, 5);
        for (int n = 0; n <= 12; n++) {
            row(x, unlike(n));
            due("five alone", x.mend(0), n == 5 ? 0 : NONE);
        }
        make(x, 0, 1, 0, 1, "0 b any to 0");
        for (int n = 0; n <= 12; n++) {
            row(x, unlike(n));
            due("each letter", x.mend(0), n);
        }
        x.change(11, 1, 11);
        due("all but the last", x.mend(0), 11);
        x.change(0, 1, 0);
        due("all but the first and the last", x.mend(0), 10);
        for (int gap : new int[] {0, 11}) {
            x.change(gap, 1, -1);
            due("no name", x.mend(0), NOT);
            x.change(gap, -1, 0);
            due("no letter", x.mend(0), NOT);
            x.change(gap, 1, 0);
        }
        due("filled", x.mend(0), 10);
        // the fewest of several ends, in whichever state
        make(x, 0, 3, 0, 7, "0 a any to 0", "0 b any to 1", "0 c any to 2");
        row(x, "a0");
        due("state 0", x.mend(0), 0);
        row(x, "b0");
        due("state 1", x.mend(0), 0);
        row(x, "c0");
        due("state 2", x.mend(0), 0);
        // letter and name of one pair are one
        make(x, 0, 3, 1, 4, "0 a any keep 0 to 1", "1 b new to 2");
        row(x, "a0 a0");
        due("both of the second", x.mend(0), 1);
        row(x, "b0 a0");
        due("the letter of each, and a name with it", x.mend(0), 2);
    }

    private static void count() {
        NameReaders x = new NameReaders();
        for (int what : new int[] {-1, 6, 7, LOWEST, HIGHEST}) due("what", x.count(what), OUTSIDE);
        make(x, 0, 1, 0, 0, times(20, "0 a any to 0"));
        make(x, 1, 1, 0, 0, times(19, "0 a any to 0"));
        fill(x, 150);
        row(x, unlike(12));
        int[] full = {12, 0, 12, 150, 20, 19};
        for (int what = 0; what < 6; what++) due("full " + what, x.count(what), full[what]);
        for (int i = 0; i < 12; i++) {
            x.change(i, -1, i);
            due("letters that are gaps", x.count(1), i + 1);
            due("names", x.count(2), 12);
        }
        for (int i = 0; i < 12; i++) {
            x.change(i, -1, -1);
            due("each of both is one", x.count(1), 13 + i);
            due("names", x.count(2), 11 - i);
        }
        row(x, "a0 b0 c0 a99 ?99 b?");
        int[] want = {6, 2, 2};
        for (int what = 0; what < 3; what++) due("count " + what, x.count(what), want[what]);
        x.hush();
        x.erase();
        int[] empty = {0, 0, 0, 0, 20, 19};
        for (int what = 0; what < 6; what++) due("empty " + what, x.count(what), empty[what]);
    }

    /** All registers are EMPTY where a row begins: in none of them is a name, and each name is new. */
    private static void emptyAtFirst() {
        for (int r = 0; r < 3; r++) {
            NameReaders x = new NameReaders();
            make(x, 0, 2, 3, 2, "0 a is " + r + " to 1");
            atFirst(x, false);
            due("a name that is in no register", x.useless(0), 1);
        }
        NameReaders x = new NameReaders();
        make(x, 0, 2, 3, 2, "0 a is 0 to 0", "0 a is 1 to 0", "0 a is 2 to 0", "0 a new to 1");
        atFirst(x, true);
        due("the first three", x.useless(0), 7);
        promise = 21;
        due("one alone", x.twofold(0), NONE);
        promise = 15;
        row(x, "a0");
        due("the fourth move", x.run(0, 0), 3);
    }

    /** What reader 0 answers, if it takes a0 in one way, or nothing at all. */
    private static void atFirst(NameReaders x, boolean takes) {
        int one = takes ? 1 : 0;
        makeOpen(x, 1);
        row(x, "a0");
        promise = 12; due("taken", x.taken(0), one);
        promise = 13; due("may", x.may(0, 1), 2 * one);
        promise = 14; due("runs", x.runs(0), one);
        promise = 15; due("run", x.run(0, 0) >= 0 ? 1 : 0, one);
        promise = 16; due("shapes", x.shapes(0, 1, 3), one);
        promise = 17; due("shape", x.shape(0, 1, 3, 0, 0), one - 1);
        promise = 18; due("least", x.least(0), takes ? 1 : NONE);
        promise = 19; due("first", x.first(0, 0), one - 1);
        promise = 22; due("both", x.both(), takes ? 1 : NONE);
        promise = 24; due("fillings", x.fillings(0), one);
        promise = 25; due("filled", x.filled(0, 0), one - 1);
        promise = 26; due("mend", x.mend(0), takes ? 0 : NONE);
        x.change(0, -1, -1);
        promise = 24; due("fillings", x.fillings(0), one);
        promise = 25; due("filled", x.filled(0, 0), one - 1);
        x.change(0, 2, 7);
        promise = 26; due("mend", x.mend(0), takes ? 1 : NONE);
        x.reader(1, 1, 0, 0);
        promise = 23; due("parted", x.parted(5, -1), takes ? 1 : NONE);
        promise = 23; due("parted", x.parted(5, 0), one - 1);
        promise = 20;
    }

    /** A name in one register can be asked for again: runs by what the register has, at the end of so many pairs. */
    private static void namesThatComeAgain() {
        NameReaders x = new NameReaders();
        make(x, 0, 1, 1, 1, "0 a any keep 0 to 0", "0 a any to 0", "0 b is 0 to 0", "0 b any to 0");
        row(x, "a1 a2 a3 a4 a5 a6 b1 b2 b3 b4 b5 b6");
        due("1, and 2 * 2^(i - 1) for name i", x.runs(0), 1 + 2 * 63);
        row(x, "a1 a2 a3 a4 a5 a6 b6 b5 b4 b3 b2 b1");
        due("in any order", x.runs(0), 1 + 2 * 63);
        // the sums behind each a: 2 4 8, then 9 by b1, 18 by a4, 20, 40, 44, 88, 97, 117, 161
        row(x, "a1 a2 a3 b1 a4 b2 a5 b3 a6 b4 b5 b6");
        due("one goes where another comes", x.runs(0), 161);
        for (int r = 0; r < 3; r++) {
            make(x, 0, 1, 3, 1, "0 a any keep " + r + " to 0", "0 a any to 0", "0 b is " + r + " to 0", "0 b any to 0");
            due("in register " + r, x.runs(0), 161);
            due("the first run", x.run(0, 11), 2);
        }
    }

    private static void eachRegister() {
        NameReaders x = new NameReaders();
        for (int r = 0; r < 3; r++) {
            make(x, 0, 3, 3, 4, "0 a any keep " + r + " to 1", "1 b is 0 to 2", "1 b is 1 to 2", "1 b is 2 to 2");
            promise = 18;
            due("register " + r, x.least(0), 2);
            promise = 19;
            due("a0", x.first(0, 0), 0);
            due("b0", x.first(0, 1), 16);
            promise = 20;
            due("the two that stay EMPTY", x.useless(0), 14 & ~(2 << r));
            promise = 21;
            due("one alone", x.twofold(0), NONE);
            promise = 16;
            due("a0 b0", x.shapes(0, 2, 3), 1);
            x.drop(0, 1 + r);
            promise = 18;
            due("without it", x.least(0), NONE);
            promise = 20;
            due("without it", x.useless(0), 7);
        }
    }

    /** Registers p and q have one name, the third another; or each another one. */
    private static void registersAlike() {
        NameReaders x = new NameReaders();
        for (int p = 0; p < 3; p++) {
            for (int q = 0; q < 3; q++) {
                if (p == q) continue;
                make(x, 0, 4, 3, 8, "0 a any keep " + p + " to 1", "1 a new keep " + (3 - p - q) + " to 2", "2 a is " + p + " keep " + q + " to 3",
                    "3 b is 0 to 3", "3 b is 1 to 3", "3 b is 2 to 3", "3 b new to 3");
                due("alike are " + p + ", " + q, x.twofold(0), 32 * (3 + Math.min(p, q)) + 3 + Math.max(p, q));
                due("all of use", x.useless(0), 0);
                x.drop(0, 3 + q);
                due("without " + q, x.twofold(0), NONE);
                make(x, 0, 4, 3, 8, "0 a any keep " + p + " to 1", "1 a new keep " + q + " to 2", "2 a new keep " + (3 - p - q) + " to 3",
                    "3 b is 0 to 3", "3 b is 1 to 3", "3 b is 2 to 3", "3 b new to 3");
                due("none alike", x.twofold(0), NONE);
                due("all of use", x.useless(0), 0);
            }
            x = new NameReaders();
            for (String second : new String[] {"new", "any", "is " + (p + 1) % 3}) {
                make(x, 0, 4, 3, 8, "0 a any keep " + (p + 1) % 3 + " to 1", "1 a " + second + " keep " + (p + 2) % 3 + " to 2", "2 b is " + p + " to 3");
                due("register " + p + " stays EMPTY", x.useless(0), 7);
                due("register " + p + " stays EMPTY", x.least(0), NONE);
            }
        }
        make(x, 0, 4, 3, 8, "0 a any keep 2 to 1", "1 a is 2 keep 1 to 2", "2 a is 1 keep 0 to 3",
            "3 b is 2 to 3", "3 b is 1 to 3", "3 b is 0 to 3", "3 b new to 3");
        due("all alike: the first two", x.twofold(0), 32 * 3 + 4);
        x.drop(0, 3);
        due("all alike: the next two", x.twofold(0), 32 * 3 + 4);
        x.drop(0, 3);
        due("one is left, and new", x.twofold(0), NONE);
    }

    /** Three unlike names, kept in another order by each reader, then a name that one of the registers has. */
    private static void registersOfBoth() {
        for (int p = 0; p < 3; p++) {
            for (int q = 0; q < 3; q++) {
                NameReaders x = new NameReaders();
                for (int reader = 0; reader < 2; reader++) {
                    int r = reader == 0 ? p : q;
                    make(x, reader, 5, 3, 16, "0 a new keep " + r + " to 1", "1 b new keep " + (r + 1) % 3 + " to 2",
                        "2 c new keep " + (r + 2) % 3 + " to 3", "3 a is " + r + " to 4");
                }
                due("the same name", x.both(), 4);
                x.drop(1, 3);
                Bench.write(x, "3 a is " + (q + 1) % 3 + " to 4");
                x.moves(1);
                due("the first and the second", x.both(), NONE);
                x.drop(1, 3);
                Bench.write(x, "3 a is " + (q + 2) % 3 + " to 4");
                x.moves(1);
                due("the first and the third", x.both(), NONE);
                x.drop(1, 3);
                Bench.write(x, "3 a new to 4");
                x.moves(1);
                due("the first and a new one", x.both(), NONE);
                x.drop(1, 3);
                Bench.write(x, "3 a any to 4");
                x.moves(1);
                due("the first and any", x.both(), 4);
            }
        }
        // one may keep it and may not: both ways go on
        for (int r = 0; r < 3; r++) {
            NameReaders x = new NameReaders();
            make(x, 0, 3, 0, 4, "0 a any to 1", "1 b any to 2");
            make(x, 1, 3, 3, 4, "0 a any to 1", "0 a any keep " + r + " to 1", "1 b is " + r + " to 2");
            due("kept", x.both(), 2);
            x.drop(1, 1);
            due("not kept", x.both(), NONE);
        }
    }

    private static void mendByEachRegister() {
        for (int r = 0; r < 3; r++) {
            NameReaders x = new NameReaders();
            make(x, 0, 4, 3, 8, "0 c any to 1", "1 a any keep " + r + " to 2", "2 b is " + r + " to 3");
            row(x, "c0 a0 b0");
            due("none", x.mend(0), 0);
            row(x, "c0 c1 b0");
            due("the second becomes a0, the first name", x.mend(0), 1);
            row(x, "c0 c1 b2");
            due("the second becomes a2, the last name", x.mend(0), 1);
            row(x, "c0 a1 c0");
            due("the third becomes b1", x.mend(0), 1);
            row(x, "a0 a0 c0");
            due("the first, and the third becomes b0", x.mend(0), 2);
            row(x, "b0 b1 a2");
            due("all", x.mend(0), 3);
            make(x, 0, 4, 3, 8, "0 a any keep " + r + " to 1", "1 b is " + r + " to 2", "2 b is " + r + " to 3");
            row(x, "a0 c1 b0");
            due("the second becomes b0", x.mend(0), 1);
            row(x, "c1 b0 b0");
            due("the first becomes a0", x.mend(0), 1);
        }
    }

    /** The third name is an old one, the fourth a new one again: how many have come does not sink between. */
    private static void newBehindOld() {
        for (int r = 0; r < 3; r++) {
            NameReaders x = new NameReaders();
            make(x, 0, 5, 3, 16, "0 a any keep " + r + " to 1", "1 a new keep " + (r + 1) % 3 + " to 2", "2 a is " + r + " to 3", "3 a new to 4");
            int[] told = {0, 1, 0, 2};
            promise = 16; due("one alone", x.shapes(0, 4, 3), 1);
            for (int k = 0; k < 4; k++) {
                promise = 17; due("shape " + k, x.shape(0, 4, 3, 0, k), told[k]);
                promise = 19; due("first " + k, x.first(0, k), told[k]);
                promise = 23; due("parted " + k, x.parted(5, k), told[k]);
            }
            int[] filled = {1, 0, 1, 2};
            row(x, "a1 a? a? a?");
            promise = 24; due("one alone", x.fillings(0), 1);
            for (int k = 0; k < 4; k++) {
                promise = 25; due("filled " + k, x.filled(0, k), filled[k]);
            }
            row(x, "a7 a7 a7 a7");
            promise = 26; due("the second and the last", x.mend(0), 2);
        }
    }
}
