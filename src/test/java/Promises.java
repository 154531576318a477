/** Each promise by itself: ordinary calls, the edges that the document names, wrong ones. The answers are worked out by hand. */
public final class Promises extends Bench {
    public static void main(String[] args) {
        promise = 1; newObject();
        promise = 2; reader();
        promise = 3; write();
        promise = 4; erase();
        promise = 5; fault();
        promise = 6; moves();
        promise = 7; move();
        promise = 8; drop();
        promise = 9; pair();
        promise = 10; change();
        promise = 11; hush();
        promise = 12; taken();
        promise = 13; may();
        promise = 14; runs();
        promise = 15; run();
        promise = 16; shapes();
        promise = 17; shape();
        promise = 18; least();
        promise = 19; first();
        promise = 20; useless();
        promise = 21; twofold();
        promise = 22; both();
        promise = 23; parted();
        promise = 24; fillings();
        promise = 25; filled();
        promise = 26; mend();
        promise = 27; count();
        end();
    }

    private static void newObject() {
        NameReaders x = new NameReaders();
        for (int what = 0; what <= 5; what++) due("count", x.count(what), 0);
        for (int r = 0; r < 2; r++) {
            due("move", x.move(r, 0, 0), UNKNOWN);
            due("taken", x.taken(r), 0);
            due("may", x.may(r, 0), 1);
            faultOf(x, r, "0 a any to 0", NONE);
            faultOf(x, r, "1 a any to 0", 0);
            faultOf(x, r, "0 a any keep 0 to 0", 13);
        }
        due("constants", NameReaders.NONE * 1000000 + NameReaders.UNKNOWN * 1000 + NameReaders.OUTSIDE, -1002003);
        due("constants", NameReaders.NOT * 1000 + NameReaders.FULL, -4005);
        due("constants", NameReaders.MANY, 1000000001);
    }

    private static void reader() {
        NameReaders x = new NameReaders();
        due("most", x.reader(0, 6, 3, 63), 1);
        due("fewest", x.reader(1, 1, 0, 1), 1);
        due("taken", x.taken(1), 1);
        due("no such", x.reader(2, 9, 9, -1), UNKNOWN);
        due("no such", x.reader(-1, 1, 0, 0), UNKNOWN);
        due("states", x.reader(0, 0, 0, 0), OUTSIDE);
        due("states", x.reader(0, 7, 0, 0), OUTSIDE);
        due("states", x.reader(0, Integer.MIN_VALUE, 0, 0), OUTSIDE);
        due("registers", x.reader(0, 1, -1, 0), OUTSIDE);
        due("registers", x.reader(0, 1, 4, 0), OUTSIDE);
        due("takes", x.reader(0, 2, 0, 4), OUTSIDE);
        due("takes", x.reader(0, 2, 0, -1), OUTSIDE);
        due("takes", x.reader(0, 6, 0, 64), OUTSIDE);
        due("takes", x.reader(0, 2, 0, Integer.MIN_VALUE), OUTSIDE);
        // nothing of that has changed reader 0
        faultOf(x, 0, "5 a is 2 keep 2 to 5", NONE);
        make(x, 0, 2, 1, 2, "0 a any to 1");
        due("with a move", x.count(4), 1);
        due("refused", x.reader(0, 2, 1, 5), OUTSIDE);
        due("still there", x.count(4), 1);
        due("again", x.reader(0, 2, 1, 2), 1);
        due("without moves", x.count(4), 0);
        row(x, "a1");
        due("without moves", x.may(0, 1), 0);
    }

    private static void write() {
        NameReaders x = new NameReaders();
        due("eight", x.write(0x7420796e61206130L, 8), 8);
        due("none", x.write(0, 0), OUTSIDE);
        due("nine", x.write(0, 9), OUTSIDE);
        due("fewer", x.write(0, -1), OUTSIDE);
        due("nothing changed", x.count(3), 8);
        x.erase();
        // bytes above the n that are asked for do not count
        due("two of them", x.write(0x2020202020206130L, 2), 2);
        due("rest", write(x, " any to 0"), 11);
        due("fault", x.fault(0), NONE);
        x.erase();
        // the highest byte is a byte as well, also below zero
        due("seven blanks, 255", x.write(0xff20202020202020L, 8), 8);
        due("fault", x.fault(0), 7);
        x.erase();
        for (int i = 1; i <= 18; i++) due("write", x.write(0, 8), 8 * i);
        due("151", x.write(0, 7), FULL);
        due("no number of bytes", x.write(0, 9), OUTSIDE);
        due("150", x.write(0, 6), 150);
        due("151", x.write(0, 1), FULL);
        due("nothing changed", x.count(3), 150);
    }

    private static void erase() {
        NameReaders x = new NameReaders();
        due("empty", x.erase(), 0);
        write(x, "0 a any to 0;");
        due("erase", x.erase(), 13);
        due("empty", x.count(3), 0);
        due("empty", x.fault(0), 0);
        due("again", x.erase(), 0);
    }

    private static void fault() {
        NameReaders x = new NameReaders();
        due("no such", x.fault(2), UNKNOWN);
        due("no such", x.fault(-1), UNKNOWN);
        x.reader(0, 6, 3, 0);
        x.reader(1, 2, 1, 0);
        faultOf(x, 0, "", 0);
        faultOf(x, 0, "   ", 3);
        faultOf(x, 0, "0 a new to 5", NONE);
        faultOf(x, 0, "  5b any keep 2 to 0  ", NONE);
        faultOf(x, 0, "0a is2to0;0a is2to0", NONE);
        faultOf(x, 0, "0c is  0keep 1to 4 ;5 c is 2 keep 2 to 5", NONE);
        faultOf(x, 1, "0c is  0keep 1to 4 ;5 c is 2 keep 2 to 5", 13);
        faultOf(x, 0, "6 a any to 0", 0);
        faultOf(x, 0, "0 a any to 6", 11);
        faultOf(x, 0, "00 a any to 0", 0);
        faultOf(x, 0, "0 a any to 01", 11);
        faultOf(x, 0, "0 a any to 0 1", 13);
        faultOf(x, 0, "0 a is 3 to 0", 7);
        faultOf(x, 0, "0 a is 00 to 0", 7);
        faultOf(x, 0, "0 a any keep 3 to 0", 13);
        faultOf(x, 0, "0 a any keep to 0", 13);
        faultOf(x, 0, "0 a any keep 0 keep 1 to 0", 15);
        faultOf(x, 0, "0 d any to 0", 2);
        faultOf(x, 0, "0 A any to 0", 2);
        faultOf(x, 0, "0 aany to 0", 2);
        faultOf(x, 0, "0 a anyto 0", 4);
        faultOf(x, 0, "0 a an y to 0", 4);
        faultOf(x, 0, "0 az any to 0", 2);
        faultOf(x, 0, "0 a{ any to 0", 3);
        faultOf(x, 0, "0 a` any to 0", 3);
        faultOf(x, 0, "0 a any to 09", 11);
        faultOf(x, 0, "0 a any to 0:", 12);
        faultOf(x, 0, "0/a any to 0", 1);
        faultOf(x, 0, "0 a is to 0", 7);
        faultOf(x, 0, "0 a is", 6);
        faultOf(x, 0, "0 a is ", 7);
        faultOf(x, 0, "0", 1);
        faultOf(x, 0, "0 a", 3);
        faultOf(x, 0, "0 a any", 7);
        faultOf(x, 0, "0 a any to", 10);
        faultOf(x, 0, "0 a any keep", 12);
        faultOf(x, 0, "0 a any keep 1", 14);
        faultOf(x, 0, "0 a any to 0;", 13);
        faultOf(x, 0, "0 a any to 0 ; ", 15);
        faultOf(x, 0, ";0 a any to 0", 0);
        faultOf(x, 0, "0 a any to 0;;0 a any to 0", 13);
        faultOf(x, 0, "0 a any to 0,0 a any to 0", 12);
        faultOf(x, 0, "0 a any to 0\t", 12);
        faultOf(x, 0, "0\ta any to 0", 1);
        faultOf(x, 0, "0 a any to 0;0 a any 0", 21);
        faultOf(x, 0, "0 a any to 0 to 0", 13);
        // it is asked alone: nothing changes
        due("text", x.count(3), 17);
        faultOf(x, 1, "0 a any to 1", NONE);
        faultOf(x, 1, "0 a any to 2", 11);
        faultOf(x, 1, "0 a is 1 to 0", 7);
        // more moves than a reader may have are no fault
        make(x, 0, 1, 0, 0);
        for (int i = 0; i < 10; i++) {
            write(x, "0 a any to 0;0 a any to 0");
            due("moves", x.moves(0), 2 * i + 2);
        }
        faultOf(x, 0, "0 a any to 0", NONE);
    }

    private static void moves() {
        NameReaders x = new NameReaders();
        x.reader(0, 2, 1, 2);
        due("no such", x.moves(2), UNKNOWN);
        due("empty", x.moves(0), NOT);
        write(x, "0 a any to 1;1 b is 0 keep 0 to 0");
        due("not for 1", x.moves(1), NOT);
        due("text is still there", x.count(3), 33);
        due("moves", x.moves(0), 2);
        due("text", x.count(3), 0);
        write(x, "1 c new to 1");
        due("behind", x.moves(0), 3);
        due("first", x.move(0, 0, 4), 1);
        due("last", x.move(0, 2, 1), 2);
        due("another reader", x.count(5), 0);
        for (int i = 0; i < 5; i++) {
            write(x, "0 a any to 1;0 a any to 1;0 a any to 1");
            due("moves", x.moves(0), 6 + 3 * i);
        }
        write(x, "1 b any to 0;1 b any to 0;1 b any to 0");
        due("21", x.moves(0), FULL);
        due("text is still there", x.count(3), 38);
        due("nothing changed", x.count(4), 18);
        x.erase();
        write(x, "1 b any to 0;1 b any to 0");
        due("20", x.moves(0), 20);
        write(x, "1 b any to 0;");
        due("a fault comes ahead of FULL", x.moves(0), NOT);
        x.erase();
        // fifteen moves are the most that a text can tell
        x.reader(0, 1, 1, 1);
        write(x, "0a is0to0;0a is0to0;0a is0to0;0a is0to0;0a is0to0;0a is0to0;0a is0to0;0a is0to0;"
            + "0a is0to0;0a is0to0;0a is0to0;0a is0to0;0a is0to0;0a is0to0;0a is0to0 ");
        due("150", x.count(3), 150);
        due("fifteen", x.moves(0), 15);
    }

    private static void move() {
        NameReaders x = new NameReaders();
        make(x, 1, 6, 3, 0, "5 c is 2 keep 1 to 4", "0 a new to 0", "1 b any keep 0 to 2");
        int[][] want = {{5, 2, 2, 1, 4}, {0, 0, 3, NONE, 0}, {1, 1, 4, 0, 2}};
        for (int m = 0; m < 3; m++) {
            for (int what = 0; what < 5; what++) due("move", x.move(1, m, what), want[m][what]);
        }
        due("what", x.move(1, 0, 5), OUTSIDE);
        due("what", x.move(1, 0, -1), OUTSIDE);
        due("no such", x.move(1, 3, 0), UNKNOWN);
        due("no such", x.move(1, -1, 0), UNKNOWN);
        due("no such comes first", x.move(1, 3, 9), UNKNOWN);
        due("no such reader", x.move(2, 0, 0), UNKNOWN);
        due("no such reader", x.move(0, 0, 0), UNKNOWN);
        due("far", x.move(1, Integer.MAX_VALUE, 0), UNKNOWN);
        due("far", x.move(1, Integer.MIN_VALUE, 0), UNKNOWN);
    }

    private static void drop() {
        NameReaders x = new NameReaders();
        make(x, 0, 3, 0, 4, "0 a any to 1", "0 b any to 2", "1 c any to 2");
        due("no such", x.drop(0, 3), UNKNOWN);
        due("no such", x.drop(0, -1), UNKNOWN);
        due("no such", x.drop(1, 0), UNKNOWN);
        due("no such", x.drop(2, 0), UNKNOWN);
        due("drop", x.drop(0, 1), 2);
        due("a number less", x.move(0, 1, 1), 2);
        due("gone", x.move(0, 2, 0), UNKNOWN);
        row(x, "b1");
        due("gone", x.taken(0), 0);
        row(x, "a1 c1");
        due("there", x.run(0, 1), 1);
        due("drop", x.drop(0, 1), 1);
        due("drop", x.drop(0, 0), 0);
        due("drop", x.drop(0, 0), UNKNOWN);
    }

    private static void pair() {
        NameReaders x = new NameReaders();
        due("pair", x.pair(0, 0), 1);
        due("pair", x.pair(2, 99), 2);
        due("gaps", x.pair(-1, -1), 3);
        due("letter", x.pair(-2, 0), OUTSIDE);
        due("letter", x.pair(3, 0), OUTSIDE);
        due("name", x.pair(0, -2), OUTSIDE);
        due("name", x.pair(0, 100), OUTSIDE);
        due("nothing changed", x.count(0), 3);
        for (int i = 4; i <= 12; i++) due("pair", x.pair(1, i), i);
        due("full", x.pair(0, 0), FULL);
        due("outside comes first", x.pair(0, 100), OUTSIDE);
        due("nothing changed", x.count(0), 12);
    }

    private static void change() {
        NameReaders x = new NameReaders();
        due("no such", x.change(0, 0, 0), UNKNOWN);
        row(x, "a1 b2");
        due("no such", x.change(2, 9, 0), UNKNOWN);
        due("no such", x.change(-1, 0, 0), UNKNOWN);
        due("letter", x.change(1, 3, 0), OUTSIDE);
        due("letter", x.change(1, -2, 0), OUTSIDE);
        due("name", x.change(1, 0, 100), OUTSIDE);
        due("name", x.change(1, 0, -2), OUTSIDE);
        make(x, 0, 1, 1, 1, "0 a any keep 0 to 0", "0 b is 0 to 0");
        due("as before", x.taken(0), 0);
        due("change", x.change(1, 1, 1), 1);
        due("taken", x.taken(0), 1);
        due("gap", x.change(1, -1, 1), 1);
        due("gap", x.taken(0), NOT);
        due("names", x.count(2), 1);
    }

    private static void hush() {
        NameReaders x = new NameReaders();
        due("empty", x.hush(), 0);
        row(x, "a1 ?? c3");
        due("hush", x.hush(), 3);
        due("pairs", x.count(0), 0);
        due("gaps", x.count(1), 0);
        due("names", x.count(2), 0);
        due("again", x.hush(), 0);
    }

    private static void taken() {
        NameReaders x = new NameReaders();
        make(x, 0, 2, 2, 2, "0 a new keep 0 to 0", "0 a is 0 keep 1 to 0", "0 b is 1 to 1", "1 c new to 1");
        due("no such", x.taken(2), UNKNOWN);
        due("empty row", x.taken(0), 0);
        row(x, "a5 a5 b5");
        due("taken", x.taken(0), 1);
        row(x, "a5 b5");
        due("register 1 is empty", x.taken(0), 0);
        row(x, "a5 a5 a6 b5 c7");
        due("7 is new", x.taken(0), 1);
        row(x, "a5 a5 a6 b5 c6");
        due("6 is kept", x.taken(0), 0);
        row(x, "a5 a5 a6 b5 c5");
        due("5 is kept", x.taken(0), 0);
        row(x, "a5 a6 a6 b6 c5");
        due("5 is kept no more", x.taken(0), 1);
        row(x, "a5 a5 b?");
        due("gap", x.taken(0), NOT);
        due("no such comes first", x.taken(-1), UNKNOWN);
        row(x, "a5 a5 ?5");
        due("gap", x.taken(0), NOT);
    }

    private static void may() {
        NameReaders x = new NameReaders();
        make(x, 0, 4, 1, 0, "0 a any to 0", "0 a any keep 0 to 1", "1 b is 0 to 2", "0 b any to 3");
        row(x, "a1 a2 b1 c1");
        due("0", x.may(0, 0), 1);
        due("1", x.may(0, 1), 3);
        due("2", x.may(0, 2), 3);
        due("3", x.may(0, 3), 8);
        due("4", x.may(0, 4), 0);
        due("5", x.may(0, 5), OUTSIDE);
        due("-1", x.may(0, -1), OUTSIDE);
        due("no such", x.may(2, 9), UNKNOWN);
        x.change(2, 1, 2);
        due("3", x.may(0, 3), 12);
        x.change(3, 2, -1);
        due("a gap, also behind k", x.may(0, 1), NOT);
        due("outside comes first", x.may(0, 5), OUTSIDE);
    }

    private static void runs() {
        NameReaders x = new NameReaders();
        make(x, 0, 2, 0, 1, "0 a any to 0", "0 a new to 0", "0 a any to 1", "1 a any to 0");
        due("empty row: the empty run", x.runs(0), 1);
        due("none takes", x.runs(1), 0);
        due("no such", x.runs(2), UNKNOWN);
        row(x, "a1");
        due("two", x.runs(0), 2);
        row(x, "a1 a2");
        due("2 * 2 + 1", x.runs(0), 5);
        row(x, "a1 a2 a?");
        due("gap", x.runs(0), NOT);
        // 20 moves at each of 12 pairs
        make(x, 1, 1, 0, 1, times(20, "0 a any to 0"));
        row(x, "a1 a1 a1 a1 a1 a1");
        due("20^6", x.runs(1), 64000000);
        x.pair(0, 2);
        due("20^7", x.runs(1), MANY);
        row(x, "a1 a1 a1 a1 a1 a1 a1 a1 a1 a1 a1 a1");
        due("20^12", x.runs(1), MANY);
        // ten moves at each of nine pairs: 1000000000 itself is told
        for (int i = 0; i < 10; i++) x.drop(1, 0);
        row(x, "a1 a2 a3 a4 a5 a6 a7 a8 a9");
        due("10^9", x.runs(1), 1000000000);
        // and one more is not
        make(x, 1, 2, 0, 3, "0 a any to 0", "0 a any to 0", "0 a any to 0", "0 a any to 0", "0 a any to 0", "0 a any to 0",
            "0 a any to 0", "0 a any to 0", "0 a any to 0", "0 a any to 0", "0 b any to 1", "1 a any to 1");
        due("10^9", x.runs(1), 1000000000);
        x.erase();
        write(x, "0 a any to 1");
        x.moves(1);
        due("10^9 and more", x.runs(1), MANY);
        // too many on the way are no matter, where few come through
        make(x, 1, 2, 0, 2, "0 a any to 0", "0 a any to 0", "0 a any to 0", "0 a any to 0", "0 a any to 0", "0 a any to 0",
            "0 a any to 0", "0 a any to 0", "0 a any to 0", "0 a any to 0", "0 c any to 1");
        row(x, "a1 a2 a3 a4 a5 a6 a7 a8 a9 a9 a9 b1");
        due("none", x.runs(1), 0);
        x.change(11, 2, 1);
        due("10^11", x.runs(1), MANY);
        // twelve names; names that do not come again, ahead of two that do
        make(x, 1, 1, 2, 1, "0 a any keep 0 to 0", "0 a any keep 0 to 0", "0 a any keep 1 to 0", "0 c any keep 0 to 0", "0 c any keep 1 to 0",
            "0 b is 0 to 0", "0 b is 1 to 0");
        row(x, "a0 c1 a2 a3 a4 a5 a6 a7 a8 a9 a10 a11");
        due("2 * 3^11", x.runs(1), 2 * 177147);
        row(x, "a1 a2 a3 a4 a5 a6 c7 b6 b7");
        due("243 * (2 + 1)", x.runs(1), 729);
        row(x, "a1 b1 a2 b2 a3 b3 a4 b4 a5 b5 a6 b6");
        due("3^6, and both registers cannot have it", x.runs(1), 729);
        // six names that come again at once, in all registers
        make(x, 1, 1, 3, 1, "0 a any keep 0 to 0", "0 a any keep 1 to 0", "0 a any keep 2 to 0", "0 b is 0 to 0", "0 b is 1 to 0", "0 b is 2 to 0");
        row(x, "a1 a2 a3 a4 a5 a6 b1 b2 b3 b4 b5 b6");
        due("six names do not fit", x.runs(1), 0);
        row(x, "a1 a2 a3 b1 b2 b3 a4 a5 a6 b4 b5 b6");
        due("three of three, twice", x.runs(1), 36);
        row(x, "a1 a2 a3 a4 a5 a6 b4 b5 b6 a1 a1 b1");
        due("27 that are lost, 6 orders, then 3 with 1 once and 6 with it twice", x.runs(1), 27 * 6 * (3 + 6 * 2));
    }

    private static void run() {
        NameReaders x = new NameReaders();
        make(x, 0, 3, 1, 4, "0 a any to 2", "0 a any keep 0 to 1", "0 a any to 1", "1 b any to 1", "1 b is 0 to 2", "1 b new to 2");
        row(x, "a1 b1 b1");
        due("0", x.run(0, 0), 1);
        due("1", x.run(0, 1), 3);
        due("2", x.run(0, 2), 4);
        due("3", x.run(0, 3), NONE);
        due("far", x.run(0, Integer.MAX_VALUE), NONE);
        due("below", x.run(0, -1), OUTSIDE);
        due("no such", x.run(2, -1), UNKNOWN);
        row(x, "a1 b1 b2");
        due("the end is another", x.run(0, 2), 5);
        due("the first move of all that can", x.run(0, 0), 1);
        row(x, "a1 c1");
        due("none", x.run(0, 0), NONE);
        row(x, "");
        due("no pairs", x.run(0, 0), NONE);
        row(x, "a1 b?");
        due("gap", x.run(0, 0), NOT);
        due("outside comes first", x.run(0, -1), OUTSIDE);
    }

    private static void shapes() {
        NameReaders x = new NameReaders();
        due("no such", x.shapes(2, 0, 1), UNKNOWN);
        due("n", x.shapes(0, 7, 1), OUTSIDE);
        due("n", x.shapes(0, -1, 1), OUTSIDE);
        due("l", x.shapes(0, 0, 0), OUTSIDE);
        due("l", x.shapes(0, 0, 4), OUTSIDE);
        make(x, 0, 1, 0, 1, "0 a any to 0", "0 b any to 0", "0 c any to 0");
        int[] bell = {1, 1, 2, 5, 15, 52, 203};
        int power = 1;
        for (int n = 0; n <= 6; n++, power *= 3) {
            due("all of one letter", x.shapes(0, n, 1), bell[n]);
            due("all of two", x.shapes(0, n, 2), bell[n] << n);
            due("all of three", x.shapes(0, n, 3), bell[n] * power);
        }
        make(x, 0, 2, 1, 2, "0 a any keep 0 to 1", "1 a new to 1");
        due("the first name comes once", x.shapes(0, 4, 1), 5);
        due("n = 0", x.shapes(0, 0, 3), 0);
        make(x, 0, 5, 3, 16, "0 a any keep 0 to 1", "1 a any keep 1 to 2", "2 a any keep 2 to 3", "3 b new to 4");
        due("new to three registers: a0 a0 a0 b1, 3 with b2, one with b3", x.shapes(0, 4, 2), 5);
        make(x, 0, 5, 3, 16, "0 a any keep 2 to 1", "1 a any keep 1 to 2", "2 a any keep 0 to 3", "3 b is 1 to 4");
        due("the second name", x.shapes(0, 4, 2), 5);
        // two runs on one shape count once
        make(x, 0, 1, 1, 1, "0 a any keep 0 to 0", "0 a any to 0", "0 a is 0 to 0");
        due("once", x.shapes(0, 3, 3), 5);
    }

    private static void shape() {
        NameReaders x = new NameReaders();
        make(x, 0, 1, 0, 1, "0 a any to 0", "0 c any to 0");
        // a0 a0, a0 a1, a0 c0, a0 c1, c0 a0, c0 a1, c0 c0, c0 c1
        int[][] want = {{0, 0}, {0, 1}, {0, 32}, {0, 33}, {32, 0}, {32, 1}, {32, 32}, {32, 33}};
        for (int i = 0; i < 8; i++) {
            for (int k = 0; k < 2; k++) due("shape " + i + " " + k, x.shape(0, 2, 3, i, k), want[i][k]);
            due("no pair", x.shape(0, 2, 3, i, 2), NONE);
        }
        due("no shape", x.shape(0, 2, 3, 8, 0), NONE);
        due("no shape", x.shape(0, 2, 3, Integer.MAX_VALUE, 0), NONE);
        due("with one letter", x.shape(0, 2, 1, 1, 1), 1);
        due("with one letter", x.shape(0, 2, 1, 2, 1), NONE);
        due("no pairs", x.shape(0, 0, 1, 0, 0), NONE);
        due("last of six", x.shape(0, 6, 3, 203 * 64 - 1, 5), 32 + 5);
        due("behind it", x.shape(0, 6, 3, 203 * 64, 5), NONE);
        due("i", x.shape(0, 2, 3, -1, 0), OUTSIDE);
        due("k", x.shape(0, 2, 3, 0, -1), OUTSIDE);
        due("n", x.shape(0, 7, 3, 0, 0), OUTSIDE);
        due("n", x.shape(0, -1, 3, 0, 0), OUTSIDE);
        due("l", x.shape(0, 2, 4, 0, 0), OUTSIDE);
        due("l", x.shape(0, 2, 0, 0, 0), OUTSIDE);
        due("no such", x.shape(2, 9, 9, -1, -1), UNKNOWN);
    }

    private static void least() {
        NameReaders x = new NameReaders();
        due("none", x.least(0), NONE);
        due("no such", x.least(2), UNKNOWN);
        due("no such", x.least(-1), UNKNOWN);
        make(x, 0, 2, 1, 2, "0 a is 0 to 1");
        due("an empty register has no name", x.least(0), NONE);
        make(x, 0, 2, 1, 3, "0 a is 0 to 1");
        due("takes at once", x.least(0), 0);
        make(x, 0, 3, 2, 4, "0 a any keep 0 to 1", "1 a is 1 to 2", "1 b is 0 keep 1 to 1");
        due("3", x.least(0), 3);
        makeRounds(x, 4);
        due("12", x.least(0), 12);
        makeRounds(x, 5);
        due("15", x.least(0), 15);
    }

    private static void first() {
        NameReaders x = new NameReaders();
        due("none", x.first(0, 0), NONE);
        due("no such", x.first(2, -1), UNKNOWN);
        due("below", x.first(0, -1), OUTSIDE);
        // b0 is shorter than a0 a0, c0 comes behind b0
        make(x, 0, 2, 0, 2, "0 c any to 1", "0 b any to 1", "0 a any to 0");
        due("b", x.first(0, 0), 16);
        due("no more", x.first(0, 1), NONE);
        // the letter counts ahead of the name, the first pair ahead of the second
        make(x, 0, 3, 1, 4, "0 a any keep 0 to 1", "1 b is 0 to 2", "1 a new to 2");
        due("a0", x.first(0, 0), 0);
        due("a1", x.first(0, 1), 1);
        // a run that does not keep has the first end
        make(x, 0, 4, 1, 8, "0 a any keep 0 to 1", "0 a any to 2", "1 b is 0 to 3", "2 a any to 3");
        due("a0", x.first(0, 0), 0);
        due("a0", x.first(0, 1), 0);
        makeRounds(x, 4);
        int[] want = {0, 0, 0, 0, 0, 0, 0, 16, 0, 0, 0, 32};
        for (int k = 0; k < 12; k++) due("round " + k, x.first(0, k), want[k]);
        due("no more", x.first(0, 12), NONE);
        makeRounds(x, 5);
        due("15 are too many", x.first(0, 0), NONE);
        make(x, 0, 1, 0, 1);
        due("no pairs", x.first(0, 0), NONE);
    }

    private static void useless() {
        NameReaders x = new NameReaders();
        due("no moves", x.useless(0), 0);
        due("no such", x.useless(2), UNKNOWN);
        make(x, 0, 4, 2, 2, "0 a any keep 0 to 1", "1 b is 1 to 1", "1 b is 0 to 2", "3 a any to 1", "1 c new to 1");
        due("register 1 is empty, 2 leads nowhere, 3 is never there", x.useless(0), 2 + 4 + 8);
        x.reader(1, 1, 0, 0);
        write(x, "0 a any to 0");
        x.moves(1);
        due("nothing takes", x.useless(1), 1);
        make(x, 0, 3, 0, 4, "0 a any to 1", "1 a any to 0", "0 b any to 2");
        due("back to where it began", x.useless(0), 0);
        // in a run that takes, though behind more than twelve pairs
        makeRounds(x, 5);
        due("none", x.useless(0), 0);
        // with both registers alike, a name that is in one is in the other
        make(x, 0, 4, 2, 8, "0 a any keep 0 to 1", "1 a is 0 keep 1 to 2", "2 b new keep 0 to 3", "2 a is 1 to 3", "2 c is 0 keep 1 to 0");
        due("0 ends nowhere new", x.useless(0), 0);
    }

    private static void twofold() {
        NameReaders x = new NameReaders();
        due("none", x.twofold(0), NONE);
        due("no such", x.twofold(2), UNKNOWN);
        make(x, 0, 2, 2, 0, "0 a any keep 0 to 1", "1 b is 0 to 1", "1 b is 1 to 1", "1 b new to 1");
        due("register 1 is empty", x.twofold(0), NONE);
        write(x, "1 c is 0 keep 1 to 1");
        x.moves(0);
        due("now both have it", x.twofold(0), 32 * 1 + 2);
        x.drop(0, 1);
        due("one of both", x.twofold(0), NONE);
        // nothing has to take: a run alone has to come there
        make(x, 0, 3, 0, 0, "2 a any to 0", "2 a any to 1", "0 b any to 0", "0 c any to 1", "1 a new to 0", "1 b new to 0", "1 a any to 1");
        due("2 is never there", x.twofold(0), 32 * 4 + 6);
        make(x, 0, 1, 0, 0, "0 a any to 0", "0 b any to 0", "0 b any to 0", "0 a any to 0", "0 a new to 0");
        due("by the lesser, then the other", x.twofold(0), 3);
    }

    private static void both() {
        NameReaders x = new NameReaders();
        due("none", x.both(), NONE);
        make(x, 0, 1, 0, 1, "0 a any to 0");
        make(x, 1, 1, 0, 1);
        due("the empty row", x.both(), 0);
        // 0: the last name is the first one; 1: the last name is not the first one
        make(x, 0, 3, 1, 4, "0 a any keep 0 to 1", "1 a any to 1", "1 a is 0 to 2");
        make(x, 1, 3, 1, 4, "0 a any keep 0 to 1", "1 a any to 1", "1 a new to 2");
        due("never", x.both(), NONE);
        // 1: the last name is that ahead of it
        make(x, 1, 3, 1, 4, "0 a any keep 0 to 0", "0 a is 0 to 2");
        due("two alike", x.both(), 2);
        // 1: and that is not the one ahead of it
        make(x, 1, 4, 1, 8, "0 a any keep 0 to 1", "1 a new keep 0 to 2", "2 a is 0 to 3");
        due("the second is new, and the first", x.both(), NONE);
        write(x, "3 a any to 3");
        x.moves(1);
        due("the first again", x.both(), 4);
        // 4 and 6 pairs in each round, all six registers
        make(x, 0, 4, 3, 8, "0 a new keep 0 to 1", "1 a new keep 1 to 2", "2 a new keep 2 to 3", "3 b is 0 to 0");
        make(x, 1, 5, 3, 16, "0 a new keep 0 to 1", "1 a new keep 1 to 2", "2 a new keep 2 to 3", "3 b is 0 to 4", "4 a new to 0");
        due("3 + 4 n and 4 + 5 n", x.both(), NONE);
        make(x, 1, 5, 3, 8, "0 a new keep 0 to 1", "1 a new keep 1 to 2", "2 a new keep 2 to 3", "3 b is 0 to 0");
        due("3", x.both(), 3);
        // six names in six registers, then the first of them
        make(x, 0, 6, 3, 16, "0 a new keep 0 to 1", "1 a new keep 1 to 2", "2 a new keep 2 to 3", "3 b new to 3", "3 c any to 5", "5 c is 0 to 4");
        make(x, 1, 6, 3, 16, "0 a any to 0", "0 b new keep 0 to 1", "1 b new keep 1 to 2", "2 b new keep 2 to 3", "3 c any to 5", "5 c new to 4");
        due("a0 a1 a2 b3 b4 b5 c c0", x.both(), 8);
        x.drop(1, 5);
        due("never behind the last", x.both(), NONE);
    }

    private static void parted() {
        NameReaders x = new NameReaders();
        due("alike", x.parted(5, -1), NONE);
        due("n", x.parted(6, -1), OUTSIDE);
        due("n", x.parted(-1, -1), OUTSIDE);
        due("k", x.parted(0, -2), OUTSIDE);
        make(x, 0, 1, 0, 1);
        due("the empty row", x.parted(0, -1), 0);
        due("has no pairs", x.parted(5, 0), NONE);
        // 0 takes a row of any a; 1 takes it as long as neighbours are not alike
        make(x, 0, 1, 0, 1, "0 a any to 0");
        make(x, 1, 1, 1, 1, "0 a new keep 0 to 0");
        due("not by one", x.parted(1, -1), NONE);
        due("not by one", x.parted(1, 0), NONE);
        due("by two", x.parted(2, -1), 2);
        due("a0", x.parted(5, 0), 0);
        due("a0", x.parted(5, 1), 0);
        due("no more", x.parted(5, 2), NONE);
        // two registers: three unlike names one behind another
        make(x, 0, 1, 2, 1, "0 a new keep 0 to 0", "0 a any keep 1 to 0");
        make(x, 1, 1, 0, 1, "0 a any to 0", "0 c any to 0");
        due("the other one takes it", x.parted(3, 0), 32);
        x.drop(1, 1);
        due("none", x.parted(5, -1), NONE);
        // the first of the shortest, not of all: b0 is shorter than a0 a0
        make(x, 0, 2, 0, 2, "0 a any to 0", "0 a any to 1", "0 b any to 1");
        make(x, 1, 2, 0, 2, "0 a any to 1");
        due("b0", x.parted(5, -1), 1);
        due("b0", x.parted(5, 0), 16);
        // only with five pairs
        make(x, 0, 6, 1, 32, "0 a any keep 0 to 1", "1 a new to 2", "2 a new to 3", "3 a new to 4", "4 b any to 5");
        make(x, 1, 6, 1, 32, "0 a any keep 0 to 1", "1 a new to 2", "2 a new to 3", "3 a new to 4", "4 b is 0 to 5");
        due("not by four", x.parted(4, -1), NONE);
        due("by five", x.parted(5, -1), 5);
        int[] want = {0, 1, 1, 1, 17};
        for (int k = 0; k < 5; k++) due("pair " + k, x.parted(5, k), want[k]);
    }

    private static void fillings() {
        NameReaders x = new NameReaders();
        due("no such", x.fillings(2), UNKNOWN);
        make(x, 0, 1, 0, 1, "0 a any to 0", "0 b any to 0", "0 c any to 0");
        due("no pairs", x.fillings(0), 1);
        row(x, "a1 b2");
        due("no gaps", x.fillings(0), 1);
        due("not taken", x.fillings(1), 0);
        row(x, "?1 b2");
        due("three letters", x.fillings(0), 3);
        row(x, "a? b2");
        due("2, or another one", x.fillings(0), 2);
        row(x, "a? b?");
        due("alike or not", x.fillings(0), 2);
        row(x, "?? ?? ??");
        due("5 shapes", x.fillings(0), 5 * 27);
        row(x, "?? a7 ?? b9 ??");
        due("8 + 3 * 4 + 3 * 2 * 2 + 5", x.fillings(0), 37 * 27);
        row(x, "?? ?? ?? a0 a1 a2 a3 a4 a5 a6 a7 a8");
        due("729 + 3 * 81 + 3 * 9 * 2 + 5", x.fillings(0), 1031 * 27);
        row(x, "?1 ?1 a? b?");
        due("four", x.fillings(0), NOT);
        due("no such comes first", x.fillings(-1), UNKNOWN);
        x.change(0, 0, 1);
        due("three", x.fillings(0), 3 * (1 + 1 + 1 + 2));
        // two runs on one filling count once; a name that is told later counts as well
        make(x, 0, 2, 1, 2, "0 a any keep 0 to 0", "0 a any to 0", "0 b is 0 to 1");
        row(x, "a? b5");
        due("5", x.fillings(0), 1);
        row(x, "a5 a? b?");
        due("5 5 5, 5 x 5, 5 x x", x.fillings(0), 3);
    }

    private static void filled() {
        NameReaders x = new NameReaders();
        due("no such", x.filled(2, -1), UNKNOWN);
        due("below", x.filled(0, -1), OUTSIDE);
        due("no pairs", x.filled(0, 0), NONE);
        make(x, 0, 1, 0, 1, "0 a any to 0", "0 b any to 0", "0 c any to 0");
        row(x, "c99 ?? b0");
        due("as told", x.filled(0, 0), 256 + 99);
        due("a0", x.filled(0, 1), 0);
        due("as told", x.filled(0, 2), 128);
        due("no more", x.filled(0, 3), NONE);
        row(x, "a3 b? b1");
        due("another one is less", x.filled(0, 1), 128);
        // new names only: other ones are told in their order
        make(x, 0, 1, 2, 1, "0 b new keep 0 to 0", "0 a new keep 1 to 0");
        row(x, "a0 b? a2 b? a?");
        int[] want = {0, 128 + 1, 2, 128 + 0, 1};
        for (int k = 0; k < 5; k++) due("pair " + k, x.filled(0, k), want[k]);
        x.change(3, 1, 0);
        x.change(4, 0, 3);
        due("1 is the least that is not told", x.filled(0, 1), 128 + 1);
        row(x, "b0 b? b? b1");
        due("not 0", x.filled(0, 1), 128 + 1);
        due("not 1 again", x.filled(0, 2), 128 + 0);
        // a taken one whose letter comes later is behind one whose name does
        make(x, 0, 2, 1, 2, "0 a any keep 0 to 0", "0 c is 0 to 1", "0 b new to 1");
        row(x, "a4 ??");
        due("b0", x.filled(0, 1), 128);
        x.drop(0, 2);
        due("c4", x.filled(0, 1), 256 + 4);
        x.drop(0, 1);
        due("none", x.filled(0, 0), NONE);
        row(x, "?? ?? ?? ??");
        due("four", x.filled(0, 0), NOT);
        due("outside comes first", x.filled(0, -1), OUTSIDE);
        make(x, 0, 1, 0, 1, "0 a any to 0");
        row(x, "a5 a6");
        due("without gaps", x.filled(0, 1), 6);
        row(x, "a5 b6");
        due("without gaps", x.filled(0, 1), NONE);
    }

    private static void mend() {
        NameReaders x = new NameReaders();
        due("no such", x.mend(2), UNKNOWN);
        due("no pairs", x.mend(0), NONE);
        make(x, 0, 4, 1, 8, "0 b any keep 0 to 1", "1 a is 0 to 2", "2 a is 0 to 3");
        row(x, "a1 a2 a2");
        due("the first has to be a name that comes later", x.mend(0), 1);
        row(x, "b1 a1 a1");
        due("none", x.mend(0), 0);
        row(x, "b1 a2 a3");
        due("two of three", x.mend(0), 2);
        row(x, "c1 c1 c1");
        due("letters", x.mend(0), 3);
        row(x, "b1 a1");
        due("not of that length", x.mend(0), NONE);
        row(x, "b1 a1 a?");
        due("gap", x.mend(0), NOT);
        due("no such comes first", x.mend(-1), UNKNOWN);
        make(x, 0, 1, 2, 1, "0 a new keep 0 to 0", "0 b new keep 1 to 0");
        row(x, "a1 b1");
        due("one has to be new", x.mend(0), 1);
        row(x, "");
        due("no pairs", x.mend(0), 0);
        // a new name may be one that comes later, so that it is there when it comes
        make(x, 0, 4, 2, 8, "0 a any keep 0 to 1", "1 a new keep 1 to 2", "2 a is 1 to 3");
        row(x, "a1 a1 a2");
        due("a1 a2 a2", x.mend(0), 1);
        row(x, "a1 a1 a1");
        due("a1 a2 a2, a2 a1 a1", x.mend(0), 1);
        // twelve pairs of twelve names, each to be the first one
        make(x, 0, 2, 1, 2, "0 a any keep 0 to 1", "1 a is 0 to 1");
        row(x, "a0 a1 a2 a3 a4 a5 a6 a7 a8 a9 a10 a11");
        due("all but one", x.mend(0), 11);
        x.change(3, 0, 7);
        due("two are alike", x.mend(0), 10);
        make(x, 0, 1, 0, 1, "0 c any to 0");
        due("all", x.mend(0), 12);
        // the tenth has to be another, so it has the name of the twelfth; the eleventh has to be new
        make(x, 0, 4, 1, 8, "0 c any to 0", "0 a any keep 0 to 1", "1 b new to 2", "2 a is 0 to 3");
        row(x, "c0 c1 c2 c3 c4 c5 c6 c7 c8 c9 a10 a11");
        due("two of twelve", x.mend(0), 2);
        // an empty register has no name that a pair could get
        make(x, 0, 2, 2, 2, "0 a any keep 0 to 0", "0 b is 1 to 1");
        row(x, "a1 b1");
        due("never", x.mend(0), NONE);
    }

    private static void count() {
        NameReaders x = new NameReaders();
        due("what", x.count(-1), OUTSIDE);
        due("what", x.count(6), OUTSIDE);
        make(x, 0, 1, 0, 0, "0 a any to 0", "0 b any to 0");
        make(x, 1, 1, 0, 0, "0 a any to 0");
        row(x, "a1 ?1 b? ?? c2 c1");
        write(x, "0 a a");
        int[] want = {6, 4, 2, 5, 2, 1};
        for (int what = 0; what < 6; what++) due("count " + what, x.count(what), want[what]);
    }
}
