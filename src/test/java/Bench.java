/** What the tests with answers worked out by hand have in common. */
class Bench {
    static final int NONE = -1, UNKNOWN = -2, OUTSIDE = -3, NOT = -4, FULL = -5, MANY = 1000000001;
    static final int LOWEST = Integer.MIN_VALUE, HIGHEST = Integer.MAX_VALUE;
    static int passed = 0;
    static int failed = 0;
    static int promise = 0;

    static void due(String call, long got, long want) {
        if (got == want) {
            passed++;
        } else {
            failed++;
            System.out.println("promise " + promise + ": " + call + " answered " + got + ", due is " + want);
        }
    }

    static void end() {
        System.out.println(passed + " passed, " + failed + " failed");
        if (failed != 0) System.exit(1);
    }

    static int write(NameReaders x, String text) {
        int answer = x.count(3);
        for (int i = 0; i < text.length(); i += 8) {
            int n = Math.min(8, text.length() - i);
            long bytes = 0;
            for (int j = 0; j < n; j++) bytes |= (long) text.charAt(i + j) << 8 * j;
            answer = x.write(bytes, n);
        }
        return answer;
    }

    /** A reader of one's own, its moves told one by one. */
    static void make(NameReaders x, int reader, int states, int registers, int takes, String... moves) {
        x.erase();
        due("reader", x.reader(reader, states, registers, takes), 1);
        for (int i = 0; i < moves.length; i++) {
            write(x, moves[i]);
            due("moves of " + moves[i], x.moves(reader), i + 1);
        }
    }

    /** The same move so many times. */
    static String[] times(int n, String move) {
        String[] all = new String[n];
        java.util.Arrays.fill(all, move);
        return all;
    }

    /** Takes every row. */
    static void makeOpen(NameReaders x, int reader) {
        make(x, reader, 1, 0, 1, "0 a any to 0", "0 b any to 0", "0 c any to 0");
    }

    /** Takes rows of so many pairs of the letter a, 5 at most, and no other ones. */
    static void makeChain(NameReaders x, int reader, int pairs) {
        String[] all = new String[pairs];
        for (int i = 0; i < pairs; i++) all[i] = i + " a any to " + (i + 1);
        make(x, reader, pairs + 1, 0, 1 << pairs, all);
    }

    /** Goes round three times, so many pairs each time, since it needs a name in a register, then in another one. */
    static void makeRounds(NameReaders x, int pairs, String... more) {
        int s = pairs - 1;
        String[] all = new String[s + 3 + more.length];
        for (int i = 0; i < s; i++) all[i] = i + " a any to " + (i + 1);
        all[s] = s + " a new keep 0 to 0";
        all[s + 1] = s + " b is 0 keep 1 to 0";
        all[s + 2] = s + " c is 1 to " + pairs;
        System.arraycopy(more, 0, all, s + 3, more.length);
        make(x, 0, pairs + 1 + more.length, 2, 1 << pairs + more.length, all);
    }

    /** Pairs such as a7 b7 c99, ? being a gap. */
    static void row(NameReaders x, String pairs) {
        x.hush();
        for (String pair : pairs.split(" ")) {
            if (pair.isEmpty()) continue;
            x.pair("?abc".indexOf(pair.charAt(0)) - 1, pair.charAt(1) == '?' ? -1 : Integer.parseInt(pair.substring(1)));
        }
    }

    static void faultOf(NameReaders x, int reader, String text, int want) {
        x.erase();
        write(x, text);
        due("fault of '" + text + "'", x.fault(reader), want);
    }
}
