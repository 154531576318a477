import java.util.ArrayList;
import java.util.List;
import java.util.Random;

/** Runs of chosen calls, on NameReaders and on the Oracle: every answer has to be the same. */
public final class OracleRuns {
    private static int wrong = 0;
    private static int answers = 0;
    private static List<String> calls = new ArrayList<>();
    private static final String SIGNS = " 0129;abckeptowisany\0\u00ffA{/:`";
    private static final int[] EDGES = {Integer.MIN_VALUE, Integer.MAX_VALUE, Integer.MIN_VALUE + 1, 1 << 30, -1, 1000000001};
    private static final int[] SEEN = new int[26];

    private final Random random;
    private final NameReaders x = new NameReaders();
    private final Oracle oracle = new Oracle();
    /** How the run's readers are made. */
    private final int states, registers, moves, letters, names;
    private final boolean big;

    private OracleRuns(long seed, boolean big) {
        random = new Random(seed);
        this.big = big;
        states = 1 + random.nextInt(big ? 6 : 4);
        registers = random.nextInt(4);
        moves = 1 + random.nextInt(big ? 20 : 10);
        letters = 1 + random.nextInt(3);
        names = 1 + random.nextInt(big ? 12 : 5);
    }

    public static void main(String[] args) {
        int runs = args.length > 0 ? Integer.parseInt(args[0]) : 1500;
        long from = args.length > 1 ? Long.parseLong(args[1]) : 1;
        for (long seed = from; seed < from + runs && wrong < 10; seed++) {
            calls = new ArrayList<>();
            new OracleRuns(seed, seed % 3 == 0).play(seed);
        }
        for (int i = 0; i < SEEN.length; i++) {
            if (SEEN[i] == 0) {
                wrong++;
                System.out.println("call " + i + " was never made");
            }
        }
        System.out.println((answers - wrong) + " passed, " + wrong + " failed");
        if (wrong != 0) System.exit(1);
    }

    private void play(long seed) {
        int n = 20 + random.nextInt(100);
        makeReader(0);
        makeReader(1);
        makeRow();
        for (int i = 0; i < n && wrong < 10; i++) {
            step(seed);
        }
    }

    private void due(long seed, int kind, String call, int got, int want) {
        answers++;
        SEEN[kind]++;
        calls.add(call);
        if (got != want) {
            wrong++;
            System.out.println("seed " + seed + ": " + call + " answered " + got + ", due is " + want + "\n  behind " + calls);
        }
    }

    private int small(int most) {
        if (random.nextInt(60) == 0) return EDGES[random.nextInt(EDGES.length)];
        return random.nextInt(8) == 0 ? random.nextInt(most + 4) - 2 : random.nextInt(most + 1);
    }

    private int either() {
        if (random.nextInt(200) == 0) return EDGES[random.nextInt(EDGES.length)];
        return random.nextInt(25) == 0 ? random.nextInt(5) - 2 : random.nextInt(2);
    }

    private String oneMove(int s, int r) {
        return moveBetween(random.nextInt(s), random.nextInt(s), r);
    }

    private String moveBetween(int from, int to, int r) {
        StringBuilder b = new StringBuilder();
        b.append(from).append(blank()).append("abc".charAt(random.nextInt(letters)));
        int test = random.nextInt(r > 0 ? 4 : 2);
        b.append(' ').append(test == 0 ? "new" : test == 1 ? "any" : "is" + blank() + random.nextInt(r)).append(' ');
        if (r > 0 && random.nextInt(2) == 0) b.append("keep").append(blank()).append(random.nextInt(r)).append(blank());
        return b.append("to").append(blank()).append(to).toString();
    }

    private String blank() {
        return " ".repeat(random.nextInt(6) == 0 ? 2 : random.nextInt(2));
    }

    private void writeText(String text) {
        for (int i = 0; i < text.length();) {
            int n = Math.min(1 + random.nextInt(8), text.length() - i);
            long bytes = random.nextInt(3) == 0 ? random.nextLong() << 8 * (n - 1) << 8 : 0;
            for (int j = 0; j < n; j++) bytes |= (long) text.charAt(i + j) << 8 * j;
            due(0, 1, "write(" + bytes + ", " + n + ")", x.write(bytes, n), oracle.write(bytes, n));
            i += n;
        }
    }

    private void makeReader(int reader) {
        int s = states, r = registers, t = random.nextInt(1 << s);
        due(0, 0, "reader(" + reader + ", " + s + ", " + r + ", " + t + ")", x.reader(reader, s, r, t), oracle.reader(reader, s, r, t));
        if (random.nextBoolean()) {
            addMoves(reader, moves);
        } else {
            addChain(reader);
        }
    }

    /** Moves from each state to the next, the last state taking: rows that are taken have to be long. */
    private void addChain(int reader) {
        int s = states, r = registers, t = 1 << s - 1;
        due(0, 0, "reader(" + reader + ", " + s + ", " + r + ", " + t + ")", x.reader(reader, s, r, t), oracle.reader(reader, s, r, t));
        due(0, 2, "erase()", x.erase(), oracle.erase());
        for (int i = 0; i < s - 1 || i < moves; i++) {
            int from = random.nextInt(s);
            writeText(i < s - 1 ? moveBetween(i, i + 1, r) : moveBetween(from, random.nextInt(from + 1), r));
            due(0, 4, "moves(" + reader + ")", x.moves(reader), oracle.moves(reader));
        }
    }

    private void addMoves(int reader, int n) {
        Oracle.Machine m = oracle.machines[reader];
        for (int i = 0; i < n;) {
            int some = Math.min(n - i, 1 + random.nextInt(5));
            List<String> told = new ArrayList<>();
            for (int j = 0; j < some; j++) told.add(oneMove(m.states, m.registers));
            due(0, 2, "erase()", x.erase(), oracle.erase());
            writeText(String.join(random.nextBoolean() ? ";" : " ; ", told));
            due(0, 4, "moves(" + reader + ")", x.moves(reader), oracle.moves(reader));
            i += some;
        }
    }

    private void makeRow() {
        due(0, 9, "hush()", x.hush(), oracle.hush());
        int n = random.nextInt(big ? 13 : 8);
        int gaps = random.nextInt(3) == 0 ? 1 + random.nextInt(4) : 0;
        for (int i = 0; i < n; i++) {
            boolean gap = gaps > 0 && random.nextInt(n) < 2 * gaps;
            int letter = gap && random.nextBoolean() ? -1 : random.nextInt(letters);
            int name = gap && random.nextBoolean() ? -1 : nameOf(random.nextInt(names));
            due(0, 7, "pair(" + letter + ", " + name + ")", x.pair(letter, name), oracle.pair(letter, name));
        }
    }

    private int nameOf(int i) {
        return new int[] {1, 99, 0, 7, 42, 2, 98, 3, 5, 11, 13, 70}[i];
    }

    private String spoiled(String text) {
        StringBuilder b = new StringBuilder(text);
        for (int i = random.nextInt(3); i > 0 && b.length() > 0; i--) {
            int at = random.nextInt(b.length());
            switch (random.nextInt(3)) {
                case 0: b.deleteCharAt(at); break;
                case 1: b.insert(at, SIGNS.charAt(random.nextInt(SIGNS.length()))); break;
                default: b.setCharAt(at, SIGNS.charAt(random.nextInt(SIGNS.length())));
            }
        }
        return b.toString();
    }

    private void tryText() {
        Oracle.Machine m = oracle.machines[random.nextInt(2)];
        List<String> told = new ArrayList<>();
        for (int j = random.nextInt(4); j >= 0; j--) told.add(oneMove(Math.min(6, m.states + random.nextInt(8) / 7), m.registers));
        writeText(spoiled(String.join(";", told)));
    }

    private void step(long seed) {
        int r = either();
        int kind = random.nextInt(30);
        switch (kind) {
            case 0:
                if (random.nextInt(3) > 0) {
                    makeReader(random.nextInt(2));
                    return;
                }
                int s = small(6), g = small(3), t = random.nextInt(70) - 2;
                due(seed, 0, "reader(" + r + ", " + s + ", " + g + ", " + t + ")", x.reader(r, s, g, t), oracle.reader(r, s, g, t));
                return;
            case 1:
                if (random.nextInt(5) == 0) {
                    int n = random.nextInt(12) - 1;
                    long v = random.nextLong();
                    due(seed, 1, "write(" + v + ", " + n + ")", x.write(v, n), oracle.write(v, n));
                } else {
                    tryText();
                }
                return;
            case 2:
                due(seed, 2, "erase()", x.erase(), oracle.erase());
                return;
            case 3:
                if (random.nextBoolean()) due(seed, 2, "erase()", x.erase(), oracle.erase());
                tryText();
                due(seed, 3, "fault(" + r + ")", x.fault(r), oracle.fault(r));
                return;
            case 4:
                due(seed, 3, "fault(" + r + ")", x.fault(r), oracle.fault(r));
                due(seed, 4, "moves(" + r + ")", x.moves(r), oracle.moves(r));
                return;
            case 5:
                int m = small(10), w = small(4);
                due(seed, 5, "move(" + r + ", " + m + ", " + w + ")", x.move(r, m, w), oracle.move(r, m, w));
                return;
            case 6:
                int d = small(12);
                due(seed, 6, "drop(" + r + ", " + d + ")", x.drop(r, d), oracle.drop(r, d));
                return;
            case 7:
                addMoves(random.nextInt(2), 1 + random.nextInt(3));
                return;
            default:
                if (kind < 14) rowStep(seed, kind, r);
                else if (kind < 24) shapeStep(seed, kind, r);
                else gapStep(seed, kind, r);
        }
    }

    private void rowStep(long seed, int kind, int r) {
        int k = small(8);
        int letter = small(2);
        int name = random.nextInt(4) == 0 ? small(99) : nameOf(random.nextInt(names));
        switch (kind) {
            case 8:
                if (random.nextInt(3) == 0) makeRow();
                else due(seed, 7, "pair(" + letter + ", " + name + ")", x.pair(letter, name), oracle.pair(letter, name));
                return;
            case 9:
                due(seed, 8, "change(" + k + ", " + letter + ", " + name + ")", x.change(k, letter, name), oracle.change(k, letter, name));
                return;
            case 10:
                due(seed, 10, "taken(" + r + ")", x.taken(r), oracle.taken(r));
                return;
            case 11:
                due(seed, 11, "may(" + r + ", " + k + ")", x.may(r, k), oracle.may(r, k));
                return;
            case 12:
                due(seed, 12, "runs(" + r + ")", x.runs(r), oracle.runs(r));
                return;
            default:
                due(seed, 13, "run(" + r + ", " + k + ")", x.run(r, k), oracle.run(r, k));
        }
    }

    private void shapeStep(long seed, int kind, int r) {
        int n = random.nextInt(200) == 0 ? 6 : random.nextInt(15) == 0 ? random.nextInt(9) - 2 : random.nextInt(5);
        int l = random.nextInt(20) == 0 ? random.nextInt(6) - 1 : 1 + random.nextInt(3);
        int i = small(random.nextBoolean() ? 10 : 200), k = small(4);
        switch (kind) {
            case 14:
                if (n == 6 && random.nextInt(10) > 0) n = 5;
                due(seed, 14, "shapes(" + r + ", " + n + ", " + l + ")", x.shapes(r, n, l), oracle.shapes(r, n, l));
                return;
            case 15:
            case 16:
                if (n == 6) n = 5;
                due(seed, 15, "shape(" + r + ", " + n + ", " + l + ", " + i + ", " + k + ")", x.shape(r, n, l, i, k), oracle.shape(r, n, l, i, k));
                return;
            case 17:
                due(seed, 16, "least(" + r + ")", x.least(r), oracle.least(r));
                return;
            case 18:
                due(seed, 17, "first(" + r + ", " + k + ")", x.first(r, k), oracle.first(r, k));
                return;
            case 19:
                due(seed, 18, "useless(" + r + ")", x.useless(r), oracle.useless(r));
                return;
            case 20:
                due(seed, 19, "twofold(" + r + ")", x.twofold(r), oracle.twofold(r));
                return;
            case 21:
                // the Oracle has every name in every register: too many for more than four of them, where moves are many
                if (oracle.machines[0].registers + oracle.machines[1].registers > 4 && x.count(4) + x.count(5) > 12) return;
                due(seed, 20, "both()", x.both(), oracle.both());
                return;
            default:
                int p = random.nextInt(8) == 0 ? random.nextInt(9) - 1 : random.nextInt(5);
                int q = random.nextInt(9) - 2;
                due(seed, 21, "parted(" + p + ", " + q + ")", x.parted(p, q), oracle.parted(p, q));
        }
    }

    private void gapStep(long seed, int kind, int r) {
        int k = small(8), w = small(5);
        switch (kind) {
            case 24:
                due(seed, 22, "fillings(" + r + ")", x.fillings(r), oracle.fillings(r));
                return;
            case 25:
                due(seed, 23, "filled(" + r + ", " + k + ")", x.filled(r, k), oracle.filled(r, k));
                return;
            case 26:
                makeRow();
                due(seed, 22, "fillings(" + r + ")", x.fillings(r), oracle.fillings(r));
                due(seed, 23, "filled(" + r + ", " + k + ")", x.filled(r, k), oracle.filled(r, k));
                return;
            case 27:
            case 28:
                due(seed, 24, "mend(" + r + ")", x.mend(r), oracle.mend(r));
                return;
            default:
                due(seed, 25, "count(" + w + ")", x.count(w), oracle.count(w));
        }
    }
}
