import java.math.BigInteger;
import java.util.ArrayDeque;
import java.util.ArrayList;
import java.util.Arrays;
import java.util.Collections;
import java.util.HashMap;
import java.util.HashSet;
import java.util.List;
import java.util.Map;
import java.util.Set;
import java.util.TreeSet;

/**
 * The document again, in the most literal way: every row is written out, every run is followed with the names
 * themselves. Slow, and with nothing of NameReaders in it.
 */
final class Oracle {
    static final int NONE = -1, UNKNOWN = -2, OUTSIDE = -3, NOT = -4, FULL = -5, MANY = 1000000001;

    static final class Machine {
        int states = 1, registers = 0, takes = 0;
        List<int[]> moves = new ArrayList<>();
    }

    /** A state and the names in the registers, -1 being empty. */
    record Config(int state, List<Integer> held) { }

    final Machine[] machines = {new Machine(), new Machine()};
    final List<Integer> text = new ArrayList<>();
    final List<int[]> row = new ArrayList<>();

    // ---- readers

    int reader(int reader, int states, int registers, int takes) {
        if (unknown(reader)) return UNKNOWN;
        if (states < 1 || states > 6 || registers < 0 || registers > 3) return OUTSIDE;
        if (takes < 0 || takes > (1 << states) - 1) return OUTSIDE;
        Machine m = new Machine();
        m.states = states;
        m.registers = registers;
        m.takes = takes;
        machines[reader] = m;
        return 1;
    }

    int write(long bytes, int n) {
        if (n < 1 || n > 8) return OUTSIDE;
        if (text.size() + n > 150) return FULL;
        for (int i = 0; i < n; i++) text.add((int) (bytes >>> (8 * i)) & 255);
        return text.size();
    }

    int erase() {
        int had = text.size();
        text.clear();
        return had;
    }

    private List<int[]> told = new ArrayList<>();

    int fault(int reader) {
        if (unknown(reader)) return UNKNOWN;
        List<String> tokens = new ArrayList<>();
        List<Integer> places = new ArrayList<>();
        for (int i = 0; i < text.size();) {
            int begin = i;
            String sort = sort(text.get(i));
            i++;
            while (i < text.size() && !sort.equals("sign") && sort(text.get(i)).equals(sort)) i++;
            if (text.get(begin) == 32) continue;
            StringBuilder token = new StringBuilder();
            for (int j = begin; j < i; j++) token.append((char) (int) text.get(j));
            tokens.add(token.toString());
            places.add(begin);
        }
        tokens.add("END");
        places.add(text.size());
        Machine m = machines[reader];
        Set<String> states = digits(m.states), registers = digits(m.registers);
        told = new ArrayList<>();
        String expect = "from";
        int[] move = new int[5];
        for (int i = 0; i < tokens.size(); i++) {
            String t = tokens.get(i);
            int place = places.get(i);
            switch (expect) {
                case "from":
                    if (!states.contains(t)) return place;
                    move = new int[] {Integer.parseInt(t), 0, 0, -1, 0};
                    expect = "letter";
                    break;
                case "letter":
                    if (!Set.of("a", "b", "c").contains(t)) return place;
                    move[1] = "abc".indexOf(t);
                    expect = "test";
                    break;
                case "test":
                    if (!Set.of("new", "any", "is").contains(t)) return place;
                    move[2] = t.equals("new") ? 3 : 4;
                    expect = t.equals("is") ? "register" : "keep or to";
                    break;
                case "register":
                    if (!registers.contains(t)) return place;
                    move[2] = Integer.parseInt(t);
                    expect = "keep or to";
                    break;
                case "keep or to":
                    if (t.equals("keep")) expect = "keeps";
                    else if (t.equals("to")) expect = "target";
                    else return place;
                    break;
                case "keeps":
                    if (!registers.contains(t)) return place;
                    move[3] = Integer.parseInt(t);
                    expect = "to";
                    break;
                case "to":
                    if (!t.equals("to")) return place;
                    expect = "target";
                    break;
                case "target":
                    if (!states.contains(t)) return place;
                    move[4] = Integer.parseInt(t);
                    told.add(move);
                    expect = "more";
                    break;
                default:
                    if (t.equals("END")) return NONE;
                    if (!t.equals(";")) return place;
                    expect = "from";
            }
        }
        throw new IllegalStateException();
    }

    private static String sort(int sign) {
        if (sign >= 97 && sign <= 122) return "letters";
        return sign >= 48 && sign <= 57 ? "digits" : "sign";
    }

    private static Set<String> digits(int n) {
        Set<String> all = new HashSet<>();
        for (int i = 0; i < n; i++) all.add("" + i);
        return all;
    }

    int moves(int reader) {
        if (unknown(reader)) return UNKNOWN;
        if (fault(reader) != NONE) return NOT;
        Machine m = machines[reader];
        if (m.moves.size() + told.size() > 20) return FULL;
        m.moves.addAll(told);
        text.clear();
        return m.moves.size();
    }

    int move(int reader, int move, int what) {
        if (unknown(reader) || move < 0 || move >= machines[reader].moves.size()) return UNKNOWN;
        return what < 0 || what > 4 ? OUTSIDE : machines[reader].moves.get(move)[what];
    }

    int drop(int reader, int move) {
        if (unknown(reader) || move < 0 || move >= machines[reader].moves.size()) return UNKNOWN;
        machines[reader].moves.remove(move);
        return machines[reader].moves.size();
    }

    // ---- rows

    int pair(int letter, int name) {
        if (letter < -1 || letter > 2 || name < -1 || name > 99) return OUTSIDE;
        if (row.size() == 12) return FULL;
        row.add(new int[] {letter, name});
        return row.size();
    }

    int change(int pair, int letter, int name) {
        if (pair < 0 || pair >= row.size()) return UNKNOWN;
        if (letter < -1 || letter > 2 || name < -1 || name > 99) return OUTSIDE;
        row.set(pair, new int[] {letter, name});
        return 1;
    }

    int hush() {
        int had = row.size();
        row.clear();
        return had;
    }

    int taken(int reader) {
        if (unknown(reader)) return UNKNOWN;
        return count(1) > 0 ? NOT : takes(machines[reader], row) ? 1 : 0;
    }

    int may(int reader, int k) {
        if (unknown(reader)) return UNKNOWN;
        if (k < 0 || k > row.size()) return OUTSIDE;
        if (count(1) > 0) return NOT;
        int bits = 0;
        for (Config c : configs(machines[reader], Set.of(start(machines[reader])), row.subList(0, k))) bits |= 1 << c.state;
        return bits;
    }

    int runs(int reader) {
        if (unknown(reader)) return UNKNOWN;
        if (count(1) > 0) return NOT;
        Machine m = machines[reader];
        Map<Config, BigInteger> now = Map.of(start(m), BigInteger.ONE);
        for (int[] pair : row) {
            Map<Config, BigInteger> next = new HashMap<>();
            for (Map.Entry<Config, BigInteger> e : now.entrySet()) {
                for (int[] move : m.moves) {
                    if (can(e.getKey(), move, pair)) next.merge(made(e.getKey(), move, pair), e.getValue(), BigInteger::add);
                }
            }
            now = next;
        }
        BigInteger sum = BigInteger.ZERO;
        for (Map.Entry<Config, BigInteger> e : now.entrySet()) {
            if (takesIn(m, e.getKey())) sum = sum.add(e.getValue());
        }
        return sum.compareTo(BigInteger.valueOf(1000000000)) > 0 ? MANY : sum.intValue();
    }

    int run(int reader, int k) {
        if (unknown(reader)) return UNKNOWN;
        if (k < 0) return OUTSIDE;
        if (count(1) > 0) return NOT;
        Machine m = machines[reader];
        if (!takes(m, row) || k >= row.size()) return NONE;
        Config at = start(m);
        for (int i = 0; ; i++) {
            for (int j = 0; j < m.moves.size(); j++) {
                int[] move = m.moves.get(j);
                if (!can(at, move, row.get(i))) continue;
                Config next = made(at, move, row.get(i));
                if (takesFrom(m, next, row.subList(i + 1, row.size()))) {
                    if (i == k) return j;
                    at = next;
                    break;
                }
            }
        }
    }

    // ---- shapes

    int shapes(int reader, int n, int l) {
        if (unknown(reader)) return UNKNOWN;
        if (n < 0 || n > 6 || l < 1 || l > 3) return OUTSIDE;
        return shapesTaken(machines[reader], n, l).size();
    }

    int shape(int reader, int n, int l, int i, int k) {
        if (unknown(reader)) return UNKNOWN;
        if (n < 0 || n > 6 || l < 1 || l > 3 || i < 0 || k < 0) return OUTSIDE;
        List<List<int[]>> all = shapesTaken(machines[reader], n, l);
        return i >= all.size() || k >= n ? NONE : 16 * all.get(i).get(k)[0] + all.get(i).get(k)[1];
    }

    private List<List<int[]>> shapesTaken(Machine m, int n, int l) {
        List<List<int[]>> taken = new ArrayList<>();
        for (List<int[]> shape : allShapes(n, l)) if (takes(m, shape)) taken.add(shape);
        return taken;
    }

    private static final Map<Integer, List<List<int[]>>> SHAPES = new HashMap<>();

    static List<List<int[]>> allShapes(int n, int l) {
        return SHAPES.computeIfAbsent(10 * n + l, key -> {
            List<List<int[]>> all = new ArrayList<>();
            write(new ArrayList<>(), 0, n, l, all);
            return all;
        });
    }

    private static void write(List<int[]> begun, int names, int n, int l, List<List<int[]>> all) {
        if (begun.size() == n) {
            all.add(new ArrayList<>(begun));
            return;
        }
        for (int letter = 0; letter < l; letter++) {
            for (int name = 0; name <= names; name++) {
                begun.add(new int[] {letter, name});
                write(begun, Math.max(names, name + 1), n, l, all);
                begun.remove(begun.size() - 1);
            }
        }
    }

    int least(int reader) {
        return unknown(reader) ? UNKNOWN : distance(machines[reader], Set.of(start(machines[reader])), names(machines[reader].registers + 1));
    }

    /** With one name more than there are registers there is always a new one. */
    private static List<Integer> names(int n) {
        List<Integer> all = new ArrayList<>();
        for (int i = 0; i < n; i++) all.add(i);
        return all;
    }

    private static int distance(Machine m, Set<Config> from, List<Integer> names) {
        Map<Config, Integer> away = new HashMap<>();
        ArrayDeque<Config> queue = new ArrayDeque<>();
        for (Config c : from) {
            away.put(c, 0);
            queue.add(c);
        }
        while (!queue.isEmpty()) {
            Config c = queue.remove();
            if (takesIn(m, c)) return away.get(c);
            for (int[] move : m.moves) {
                for (int name : names) {
                    int[] pair = {move[1], name};
                    if (can(c, move, pair) && away.putIfAbsent(made(c, move, pair), away.get(c) + 1) == null) queue.add(made(c, move, pair));
                }
            }
        }
        return NONE;
    }

    int first(int reader, int k) {
        if (unknown(reader)) return UNKNOWN;
        if (k < 0) return OUTSIDE;
        int length = least(reader);
        if (length > 12 || k >= length) return NONE;
        Machine m = machines[reader];
        if (length <= 4) {
            int[] pair = shapesTaken(m, length, 3).get(0).get(k);
            return 16 * pair[0] + pair[1];
        }
        List<int[]> begun = new ArrayList<>();
        int used = 0;
        search:
        while (begun.size() < length) {
            for (int letter = 0; letter < 3; letter++) {
                for (int name = 0; name <= used; name++) {
                    begun.add(new int[] {letter, name});
                    Set<Config> now = configs(m, Set.of(start(m)), begun);
                    int rest = now.isEmpty() ? NONE : distance(m, now, names(used + 5));
                    if (rest == length - begun.size()) {
                        used = Math.max(used, name + 1);
                        continue search;
                    }
                    begun.remove(begun.size() - 1);
                }
            }
            throw new IllegalStateException();
        }
        return 16 * begun.get(k)[0] + begun.get(k)[1];
    }

    private static Set<Config> reachable(Machine m, List<Integer> names) {
        Set<Config> seen = new HashSet<>(Set.of(start(m)));
        ArrayDeque<Config> queue = new ArrayDeque<>(seen);
        while (!queue.isEmpty()) {
            Config c = queue.remove();
            for (int[] move : m.moves) {
                for (int name : names) {
                    int[] pair = {move[1], name};
                    if (can(c, move, pair) && seen.add(made(c, move, pair))) queue.add(made(c, move, pair));
                }
            }
        }
        return seen;
    }

    int useless(int reader) {
        if (unknown(reader)) return UNKNOWN;
        Machine m = machines[reader];
        List<Integer> names = names(m.registers + 1);
        Map<Config, Boolean> ends = new HashMap<>();
        int bits = (1 << m.moves.size()) - 1;
        for (Config c : reachable(m, names)) {
            for (int j = 0; j < m.moves.size(); j++) {
                for (int name : names) {
                    int[] pair = {m.moves.get(j)[1], name};
                    if (can(c, m.moves.get(j), pair)) {
                        Config next = made(c, m.moves.get(j), pair);
                        if (!ends.containsKey(next)) ends.put(next, distance(m, Set.of(next), names) >= 0);
                        if (ends.get(next)) bits &= ~(1 << j);
                    }
                }
            }
        }
        return bits;
    }

    int twofold(int reader) {
        if (unknown(reader)) return UNKNOWN;
        Machine m = machines[reader];
        List<Integer> names = names(m.registers + 1);
        Set<Config> all = reachable(m, names);
        for (int i = 0; i < m.moves.size(); i++) {
            for (int j = i + 1; j < m.moves.size(); j++) {
                for (Config c : all) {
                    for (int name : names) {
                        int[] pair = {m.moves.get(i)[1], name};
                        if (can(c, m.moves.get(i), pair) && can(c, m.moves.get(j), pair)) return 32 * i + j;
                    }
                }
            }
        }
        return NONE;
    }

    int both() {
        Machine a = machines[0], b = machines[1];
        List<Integer> names = names(a.registers + b.registers + 1);
        Set<List<Config>> seen = new HashSet<>(Set.of(List.of(start(a), start(b))));
        List<List<Config>> now = new ArrayList<>(seen);
        for (int length = 0; !now.isEmpty(); length++) {
            List<List<Config>> next = new ArrayList<>();
            for (List<Config> two : now) {
                if (takesIn(a, two.get(0)) && takesIn(b, two.get(1))) return length;
                for (int[] p : a.moves) {
                    for (int[] q : b.moves) {
                        if (p[1] != q[1]) continue;
                        for (int name : names) {
                            int[] pair = {p[1], name};
                            if (!can(two.get(0), p, pair) || !can(two.get(1), q, pair)) continue;
                            List<Config> to = List.of(made(two.get(0), p, pair), made(two.get(1), q, pair));
                            if (seen.add(to)) next.add(to);
                        }
                    }
                }
            }
            now = next;
        }
        return NONE;
    }

    int parted(int n, int k) {
        if (n < 0 || n > 5 || k < -1) return OUTSIDE;
        for (int length = 0; length <= n; length++) {
            for (List<int[]> shape : allShapes(length, 3)) {
                if (takes(machines[0], shape) != takes(machines[1], shape)) {
                    if (k < 0) return length;
                    return k < length ? 16 * shape.get(k)[0] + shape.get(k)[1] : NONE;
                }
            }
        }
        return NONE;
    }

    // ---- gaps, mends

    int fillings(int reader) {
        if (unknown(reader)) return UNKNOWN;
        return gapPairs() > 3 ? NOT : allFilled(machines[reader]).size();
    }

    int filled(int reader, int k) {
        if (unknown(reader)) return UNKNOWN;
        if (k < 0) return OUTSIDE;
        if (gapPairs() > 3) return NOT;
        List<List<int[]>> all = allFilled(machines[reader]);
        if (all.isEmpty() || k >= row.size()) return NONE;
        all.sort((x, y) -> {
            for (int i = 0; i < x.size(); i++) {
                if (x.get(i)[0] != y.get(i)[0]) return Integer.compare(x.get(i)[0], y.get(i)[0]);
                if (x.get(i)[1] != y.get(i)[1]) return Integer.compare(x.get(i)[1], y.get(i)[1]);
            }
            return 0;
        });
        return 128 * all.get(0).get(k)[0] + all.get(0).get(k)[1];
    }

    /** Every way to fill the gaps with the names told and three others; those whose others don't come in order are left out. */
    private List<List<int[]>> allFilled(Machine m) {
        TreeSet<Integer> told = new TreeSet<>();
        for (int[] pair : row) if (pair[1] >= 0) told.add(pair[1]);
        List<Integer> others = new ArrayList<>();
        for (int i = 0; others.size() < 3; i++) if (!told.contains(i)) others.add(i);
        List<Integer> candidates = new ArrayList<>(told);
        candidates.addAll(others);
        List<List<int[]>> begun = new ArrayList<>(List.of(new ArrayList<>()));
        for (int[] pair : row) {
            List<List<int[]>> next = new ArrayList<>();
            for (List<int[]> head : begun) {
                for (int letter : pair[0] < 0 ? List.of(0, 1, 2) : List.of(pair[0])) {
                    for (int name : pair[1] < 0 ? candidates : List.of(pair[1])) {
                        List<int[]> more = new ArrayList<>(head);
                        more.add(new int[] {letter, name});
                        next.add(more);
                    }
                }
            }
            begun = next;
        }
        List<List<int[]>> good = new ArrayList<>();
        for (List<int[]> full : begun) {
            List<Integer> came = new ArrayList<>();
            for (int[] pair : full) if (others.contains(pair[1]) && !came.contains(pair[1])) came.add(pair[1]);
            if (came.equals(others.subList(0, came.size())) && takes(m, full)) good.add(full);
        }
        return good;
    }

    int mend(int reader) {
        if (unknown(reader)) return UNKNOWN;
        if (count(1) > 0) return NOT;
        Machine m = machines[reader];
        TreeSet<Integer> names = new TreeSet<>();
        for (int[] pair : row) names.add(pair[1]);
        for (int i = 0, more = 0; more <= m.registers; i++) if (names.add(i)) more++;
        Map<Config, Integer> now = Map.of(start(m), 0);
        for (int[] pair : row) {
            Map<Config, Integer> next = new HashMap<>();
            for (Map.Entry<Config, Integer> e : now.entrySet()) {
                for (int[] move : m.moves) {
                    for (int name : names) {
                        int[] put = {move[1], name};
                        int cost = e.getValue() + (Arrays.equals(put, pair) ? 0 : 1);
                        if (can(e.getKey(), move, put)) next.merge(made(e.getKey(), move, put), cost, Math::min);
                    }
                }
            }
            now = next;
        }
        int best = NONE;
        for (Map.Entry<Config, Integer> e : now.entrySet()) {
            if (takesIn(m, e.getKey()) && (best < 0 || e.getValue() < best)) best = e.getValue();
        }
        return best;
    }

    int count(int what) {
        Set<Integer> names = new HashSet<>();
        int gaps = 0;
        for (int[] pair : row) {
            for (int part : pair) if (part < 0) gaps++;
            if (pair[1] >= 0) names.add(pair[1]);
        }
        if (what < 0 || what > 5) return OUTSIDE;
        return new int[] {row.size(), gaps, names.size(), text.size(), machines[0].moves.size(), machines[1].moves.size()}[what];
    }

    // ---- how readers read

    private static boolean unknown(int reader) {
        return reader != 0 && reader != 1;
    }

    private int gapPairs() {
        int n = 0;
        for (int[] pair : row) if (pair[0] < 0 || pair[1] < 0) n++;
        return n;
    }

    private static Config start(Machine m) {
        return new Config(0, Collections.nCopies(m.registers, -1));
    }

    private static boolean takesIn(Machine m, Config c) {
        return (m.takes & 1 << c.state) != 0;
    }

    private static boolean can(Config c, int[] move, int[] pair) {
        if (c.state != move[0] || pair[0] != move[1]) return false;
        if (move[2] == 4) return true;
        return move[2] == 3 ? !c.held.contains(pair[1]) : c.held.get(move[2]) == pair[1];
    }

    private static Config made(Config c, int[] move, int[] pair) {
        List<Integer> held = new ArrayList<>(c.held);
        if (move[3] >= 0) held.set(move[3], pair[1]);
        return new Config(move[4], held);
    }

    private static Set<Config> configs(Machine m, Set<Config> from, List<int[]> pairs) {
        Set<Config> now = from;
        for (int[] pair : pairs) {
            Set<Config> next = new HashSet<>();
            for (Config c : now) for (int[] move : m.moves) if (can(c, move, pair)) next.add(made(c, move, pair));
            now = next;
        }
        return now;
    }

    private static boolean takesFrom(Machine m, Config from, List<int[]> pairs) {
        for (Config c : configs(m, Set.of(from), pairs)) if (takesIn(m, c)) return true;
        return false;
    }

    static boolean takes(Machine m, List<int[]> pairs) {
        return takesFrom(m, start(m), pairs);
    }
}
