import java.util.function.Consumer;

/**
 * Refused calls: which refusal comes first where several fit, and that nothing changes. So also calls that ask alone.
 * Each is made on an object in the midst of its use; then all that such an object has is told, and it has to be
 * what another object tells on which the call was not made.
 */
public final class Refusals extends Bench {
    private interface Call {
        int on(NameReaders x);
    }

    private static Consumer<NameReaders> scene = Refusals::inUse;

    public static void main(String[] args) {
        toldTruly();
        scene = Refusals::atFirst;
        unknownReaders();
        unknownMovesAndPairs();
        outside();
        scene = Refusals::inUse;
        unknownReaders();
        unknownMovesAndPairs();
        outside();
        questions();
        gaps();
        scene = Refusals::fullOfGaps;
        unknownReaders();
        unknownMovesAndPairs();
        outside();
        questions();
        gaps();
        gapPairs();
        full();
        scene = Refusals::faulty;
        unknownReaders();
        faults();
        end();
    }

    // ---- what the calls are made on

    private static void atFirst(NameReaders x) {
    }

    /** Two readers with moves, a text that is fine for both, a row with one gap. */
    private static void inUse(NameReaders x) {
        make(x, 0, 3, 2, 5, "0 a new keep 1 to 1", "1 b is 1 keep 0 to 2", "0 a any to 0");
        make(x, 1, 2, 1, 2, "0 c any to 1", "1 a is 0 to 0");
        write(x, "1 c new keep 0 to 1;0 a any to 1");
        row(x, "a7 b99 c? a7 b0");
    }

    /** As much as there can be of everything: reader 0 and the text (for reader 0 without fault), the row with gaps in five pairs. */
    private static void fullOfGaps(NameReaders x) {
        make(x, 0, 6, 3, 63, times(20, "5 c is 2 keep 1 to 4"));
        make(x, 1, 2, 1, 2, "0 c any to 1");
        write(x, "3 a any to 0" + " ".repeat(138));
        row(x, "a7 b99 ?? a7 ?0 b5 c? c6 a6 ?? b? a1");
    }

    /** As much as there can be, but for the text, which has a fault. */
    private static void faulty(NameReaders x) {
        fullOfGaps(x);
        x.erase();
        write(x, "0 a any to 0;");
    }

    /** All that an object has, as it tells by its answers. The object is of no use afterwards. */
    private static String tellAll(NameReaders x) {
        StringBuilder told = new StringBuilder();
        for (int what = 0; what < 6; what++) told.append(x.count(what)).append(' ');
        for (int r = 0; r < 2; r++) tellMoves(x, r, told.append("\n moves"));
        told.append("\n text ").append(x.fault(0)).append(' ').append(x.fault(1)).append(' ');
        told.append(x.moves(0)).append(' ').append(x.moves(1));
        for (int r = 0; r < 2; r++) tellMoves(x, r, told.append("\n the text's moves"));
        for (int r = 0; r < 2; r++) tellReader(x, r, told.append("\n reader"));
        makeOpen(x, 0);
        told.append("\n row");
        for (int k = 0, n = x.count(0); k < n; k++) {
            told.append(' ').append(x.count(1)).append(' ').append(x.count(2)).append(' ').append(x.filled(0, k)).append(';');
            x.change(k, 0, 0);
        }
        return told.append('\n').toString();
    }

    private static void tellMoves(NameReaders x, int r, StringBuilder told) {
        for (int m = x.count(4 + r) - 1; m >= 0; m--) {
            for (int what = 0; what < 5; what++) told.append(' ').append(x.move(r, m, what));
            told.append(';');
            x.drop(r, m);
        }
    }

    /** States and registers by where texts have faults; a state takes, if a row that leads there is taken. */
    private static void tellReader(NameReaders x, int r, StringBuilder told) {
        x.erase();
        write(x, "0a any to0;1a any to0;2a any to0;3a any to0;4a any to0;5a any to0");
        int states = x.fault(r) < 0 ? 6 : x.fault(r) / 11;
        x.erase();
        write(x, "0a is0to0;0a is1to0;0a is2to0");
        int registers = x.fault(r) < 0 ? 3 : x.fault(r) / 10;
        told.append(' ').append(states).append(' ').append(registers).append(' ');
        x.erase();
        write(x, "0a any to1;1a any to2;2a any to3;3a any to4;4a any to5".substring(0, Math.max(0, 11 * states - 12)));
        x.moves(r);
        for (int s = 0; s < states; s++) told.append(x.shapes(r, s, 1) > 0 ? 1 : 0);
    }

    private static String toldBehind(Call call, String name, int want) {
        NameReaders x = new NameReaders();
        scene.accept(x);
        due(name, call.on(x), want);
        return tellAll(x);
    }

    private static String toldWithout() {
        NameReaders x = new NameReaders();
        scene.accept(x);
        return tellAll(x);
    }

    private static void same(String name, String told, String before) {
        if (!told.equals(before)) System.out.println(before + "has become\n" + told);
        due(name + ": nothing has changed", told.equals(before) ? 1 : 0, 1);
    }

    private static void refused(int number, String name, int want, Call call) {
        promise = number;
        same(name, toldBehind(call, name, want), toldWithout());
    }

    /** Calls that ask alone may answer whatever they do. */
    private static void asks(int number, String name, Call call) {
        promise = number;
        NameReaders x = new NameReaders();
        scene.accept(x);
        int answer = call.on(x);
        due(name + ": the same again", call.on(x), answer);
        same(name, tellAll(x), toldWithout());
    }

    private static void changes(int number, String name, int want, Call call) {
        promise = number;
        due(name + ": it is seen", toldBehind(call, name, want).equals(toldWithout()) ? 0 : 1, 1);
    }

    // ---- the calls

    /** What is told has to differ where a call that is allowed has changed anything. */
    private static void toldTruly() {
        scene = Refusals::inUse;
        changes(2, "without moves", 1, x -> x.reader(0, 3, 2, 5));
        changes(2, "other states that take", 1, x -> again(x, 3, 2, 4));
        changes(2, "more states", 1, x -> again(x, 4, 2, 5));
        changes(2, "more registers", 1, x -> again(x, 3, 3, 5));
        changes(3, "a byte more", 33, x -> x.write(';', 1));
        changes(4, "no text", 32, x -> x.erase());
        changes(6, "moves", 5, x -> x.moves(0));
        changes(6, "moves", 4, x -> x.moves(1));
        changes(8, "a move less", 2, x -> x.drop(0, 2));
        changes(8, "a move less", 1, x -> x.drop(1, 0));
        changes(9, "a pair more", 6, x -> x.pair(0, 0));
        for (int i = 0; i < 5; i++) {
            int at = i;
            changes(10, "another letter", 1, x -> x.change(at, 2, at == 2 ? 7 : 0));
            changes(10, "a gap", 1, x -> x.change(at, -1, 0));
        }
        changes(10, "another gap", 1, x -> x.change(2, -1, 0));
        changes(10, "another gap", 1, x -> x.change(2, -1, -1));
        changes(10, "another name", 1, x -> x.change(1, 1, 98));
        changes(11, "no row", 5, x -> x.hush());
        same("nothing at all", toldWithout(), toldWithout());
    }

    /** Reader 0 as in inUse, but for its numbers. */
    private static int again(NameReaders x, int states, int registers, int takes) {
        make(x, 0, states, registers, takes, "0 a new keep 1 to 1", "1 b is 1 keep 0 to 2", "0 a any to 0");
        write(x, "1 c new keep 0 to 1;0 a any to 1");
        return 1;
    }

    /** UNKNOWN comes ahead of all else, also where every other number is OUTSIDE and it is NOT now, or FULL. */
    private static void unknownReaders() {
        for (int r : new int[] {-1, 2, HIGHEST, LOWEST}) {
            refused(2, "reader", UNKNOWN, x -> x.reader(r, 1, 0, 0));
            refused(2, "reader, outside", UNKNOWN, x -> x.reader(r, 0, -1, -1));
            refused(5, "fault", UNKNOWN, x -> x.fault(r));
            refused(6, "moves", UNKNOWN, x -> x.moves(r));
            refused(7, "move", UNKNOWN, x -> x.move(r, 0, 0));
            refused(7, "move, outside", UNKNOWN, x -> x.move(r, -1, -1));
            refused(8, "drop", UNKNOWN, x -> x.drop(r, 0));
            refused(12, "taken", UNKNOWN, x -> x.taken(r));
            refused(13, "may", UNKNOWN, x -> x.may(r, 0));
            refused(13, "may, outside", UNKNOWN, x -> x.may(r, -1));
            refused(14, "runs", UNKNOWN, x -> x.runs(r));
            refused(15, "run", UNKNOWN, x -> x.run(r, 0));
            refused(15, "run, outside", UNKNOWN, x -> x.run(r, -1));
            refused(16, "shapes", UNKNOWN, x -> x.shapes(r, 0, 1));
            refused(16, "shapes, outside", UNKNOWN, x -> x.shapes(r, 7, 0));
            refused(17, "shape", UNKNOWN, x -> x.shape(r, 1, 1, 0, 0));
            refused(17, "shape, outside", UNKNOWN, x -> x.shape(r, -1, 4, -1, -1));
            refused(18, "least", UNKNOWN, x -> x.least(r));
            refused(19, "first", UNKNOWN, x -> x.first(r, 0));
            refused(19, "first, outside", UNKNOWN, x -> x.first(r, -1));
            refused(20, "useless", UNKNOWN, x -> x.useless(r));
            refused(21, "twofold", UNKNOWN, x -> x.twofold(r));
            refused(24, "fillings", UNKNOWN, x -> x.fillings(r));
            refused(25, "filled", UNKNOWN, x -> x.filled(r, 0));
            refused(25, "filled, outside", UNKNOWN, x -> x.filled(r, -1));
            refused(26, "mend", UNKNOWN, x -> x.mend(r));
        }
    }

    private static void unknownMovesAndPairs() {
        for (int no : new int[] {-1, 20, HIGHEST, LOWEST}) {
            for (int reader = 0; reader < 2; reader++) {
                int r = reader;
                refused(7, "move", UNKNOWN, x -> x.move(r, no, 0));
                refused(7, "move, outside", UNKNOWN, x -> x.move(r, no, 5));
                refused(8, "drop", UNKNOWN, x -> x.drop(r, no));
            }
            refused(10, "change", UNKNOWN, x -> x.change(no, 0, 0));
            refused(10, "change, outside", UNKNOWN, x -> x.change(no, 3, 100));
        }
        refused(7, "move", UNKNOWN, x -> x.move(0, x.count(4), 0));
        refused(7, "move", UNKNOWN, x -> x.move(1, x.count(5), 0));
        refused(8, "drop", UNKNOWN, x -> x.drop(0, x.count(4)));
        refused(8, "drop", UNKNOWN, x -> x.drop(1, x.count(5)));
        refused(10, "change", UNKNOWN, x -> x.change(x.count(0), 0, 0));
        refused(10, "change, outside", UNKNOWN, x -> x.change(x.count(0), -2, -2));
    }

    /** OUTSIDE comes ahead of NOT and FULL. */
    private static void outside() {
        for (int reader = 0; reader < 2; reader++) {
            int r = reader;
            refused(2, "no states", OUTSIDE, x -> x.reader(r, 0, 0, 0));
            refused(2, "seven states", OUTSIDE, x -> x.reader(r, 7, 0, 0));
            refused(2, "registers below 0", OUTSIDE, x -> x.reader(r, 1, -1, 0));
            refused(2, "four registers", OUTSIDE, x -> x.reader(r, 1, 4, 0));
            refused(2, "takes below 0", OUTSIDE, x -> x.reader(r, 1, 0, -1));
            refused(2, "a state that is none takes", OUTSIDE, x -> x.reader(r, 1, 0, 2));
            refused(13, "k below 0", OUTSIDE, x -> x.may(r, -1));
            refused(13, "k above", OUTSIDE, x -> x.may(r, x.count(0) + 1));
            refused(15, "k below 0", OUTSIDE, x -> x.run(r, -1));
            refused(16, "n below 0", OUTSIDE, x -> x.shapes(r, -1, 1));
            refused(16, "seven", OUTSIDE, x -> x.shapes(r, 7, 1));
            refused(16, "no letters", OUTSIDE, x -> x.shapes(r, 0, 0));
            refused(16, "four letters", OUTSIDE, x -> x.shapes(r, 0, 4));
            refused(17, "n below 0", OUTSIDE, x -> x.shape(r, -1, 1, 0, 0));
            refused(17, "seven", OUTSIDE, x -> x.shape(r, 7, 1, 0, 0));
            refused(17, "no letters", OUTSIDE, x -> x.shape(r, 1, 0, 0, 0));
            refused(17, "four letters", OUTSIDE, x -> x.shape(r, 1, 4, 0, 0));
            refused(17, "i below 0", OUTSIDE, x -> x.shape(r, 1, 1, -1, 0));
            refused(17, "k below 0", OUTSIDE, x -> x.shape(r, 1, 1, 0, -1));
            refused(17, "k below 0, no pairs", OUTSIDE, x -> x.shape(r, 0, 1, 0, -1));
            refused(19, "k below 0", OUTSIDE, x -> x.first(r, -1));
            refused(25, "k below 0", OUTSIDE, x -> x.filled(r, -1));
        }
        refused(3, "no bytes", OUTSIDE, x -> x.write(0L, 0));
        refused(3, "nine bytes", OUTSIDE, x -> x.write(0L, 9));
        refused(3, "bytes below 0", OUTSIDE, x -> x.write(0L, LOWEST));
        for (int wrong : new int[] {-2, 100, HIGHEST, LOWEST}) {
            refused(9, "letter", OUTSIDE, x -> x.pair(wrong, 0));
            refused(9, "name", OUTSIDE, x -> x.pair(0, wrong));
            refused(9, "both", OUTSIDE, x -> x.pair(wrong, wrong));
        }
        refused(9, "letter", OUTSIDE, x -> x.pair(3, 0));
        refused(23, "n below 0", OUTSIDE, x -> x.parted(-1, -1));
        refused(23, "six", OUTSIDE, x -> x.parted(6, -1));
        refused(23, "k below -1", OUTSIDE, x -> x.parted(5, -2));
        refused(27, "what below 0", OUTSIDE, x -> x.count(-1));
        refused(27, "six", OUTSIDE, x -> x.count(6));
    }

    /** Where there are moves and pairs. */
    private static void questions() {
        for (int wrong : new int[] {-1, 5, HIGHEST, LOWEST}) {
            refused(7, "what", OUTSIDE, x -> x.move(0, 0, wrong));
            refused(7, "what", OUTSIDE, x -> x.move(1, x.count(5) - 1, wrong));
        }
        for (int wrong : new int[] {-2, 100, HIGHEST, LOWEST}) {
            refused(10, "letter", OUTSIDE, x -> x.change(0, wrong, 0));
            refused(10, "name", OUTSIDE, x -> x.change(x.count(0) - 1, 0, wrong));
            refused(10, "both", OUTSIDE, x -> x.change(2, wrong, wrong));
        }
        refused(10, "letter", OUTSIDE, x -> x.change(0, 3, 0));
        for (int reader = 0; reader < 2; reader++) {
            int r = reader;
            asks(5, "fault", x -> x.fault(r));
            asks(7, "move", x -> x.move(r, 0, 3));
            asks(12, "taken", x -> x.taken(r));
            asks(13, "may", x -> x.may(r, 3));
            asks(14, "runs", x -> x.runs(r));
            asks(15, "run", x -> x.run(r, 1));
            asks(16, "shapes", x -> x.shapes(r, 4, 3));
            asks(17, "shape", x -> x.shape(r, 4, 3, 1, 2));
            asks(18, "least", x -> x.least(r));
            asks(19, "first", x -> x.first(r, 0));
            asks(20, "useless", x -> x.useless(r));
            asks(21, "twofold", x -> x.twofold(r));
            asks(24, "fillings", x -> x.fillings(r));
            asks(25, "filled", x -> x.filled(r, 2));
            asks(26, "mend", x -> x.mend(r));
        }
        asks(22, "both", x -> x.both());
        asks(23, "parted", x -> x.parted(4, 0));
        asks(27, "count", x -> x.count(2));
    }

    /** NOT, since THE ROW has gaps; it comes ahead of NONE. */
    private static void gaps() {
        for (int reader = 0; reader < 2; reader++) {
            int r = reader;
            refused(12, "taken", NOT, x -> x.taken(r));
            refused(13, "may", NOT, x -> x.may(r, 0));
            refused(13, "may", NOT, x -> x.may(r, x.count(0)));
            refused(14, "runs", NOT, x -> x.runs(r));
            refused(15, "run", NOT, x -> x.run(r, 0));
            refused(15, "run, no such pair", NOT, x -> x.run(r, HIGHEST));
            refused(26, "mend", NOT, x -> x.mend(r));
        }
    }

    private static void gapPairs() {
        for (int reader = 0; reader < 2; reader++) {
            int r = reader;
            refused(24, "fillings", NOT, x -> x.fillings(r));
            refused(25, "filled", NOT, x -> x.filled(r, 0));
            refused(25, "filled, no such pair", NOT, x -> x.filled(r, HIGHEST));
        }
    }

    private static void full() {
        for (int i = 1; i <= 8; i++) {
            int n = i;
            refused(3, "bytes", FULL, x -> x.write(-1L, n));
        }
        refused(6, "moves", FULL, x -> x.moves(0));
        refused(6, "a fault for the other one", NOT, x -> x.moves(1));
        refused(9, "pair", FULL, x -> x.pair(2, 99));
        refused(9, "pair", FULL, x -> x.pair(-1, -1));
    }

    /** NOT comes ahead of FULL. */
    private static void faults() {
        refused(6, "moves", NOT, x -> x.moves(0));
        refused(6, "moves", NOT, x -> x.moves(1));
        asks(5, "fault", x -> x.fault(0));
        asks(5, "fault", x -> x.fault(1));
    }
}
