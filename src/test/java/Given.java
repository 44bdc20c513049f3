/** What tests begin with: objects with keys and edges, and numbers that nothing has. */
final class Given {
    static final int NONE = CycleRows.NONE;
    static final int ALL = 255;
    static final int MIN = Integer.MIN_VALUE;
    static final int MAX = Integer.MAX_VALUE;
    static final int MOST_KEYS = 40;
    static final int MOST_EDGES = 160;

    /** No key, edge, ring, configuration or what; some are one in their lowest bits. */
    static final int[] WRONG = {
        MIN, MIN + 1, -65536, -256, -161, -41, -8, -2, -1,
        160, 161, 256, 257, 65536, MAX - 1, MAX,
    };

    private Given() {
    }

    /** An object with the keys 0 .. count - 1, whose names are in the same order. */
    static CycleRows keys(int count) {
        CycleRows x = new CycleRows();
        for (int key = 0; key < count; key++) {
            x.key(key * 10);
        }
        return x;
    }

    /** An object with a key for each of the names. */
    static CycleRows named(int... names) {
        CycleRows x = new CycleRows();
        for (int name : names) {
            x.key(name);
        }
        return x;
    }

    /** An edge for each next two numbers, at place 0 in all configurations. */
    static void edges(CycleRows x, int... pairs) {
        for (int at = 0; at + 1 < pairs.length; at += 2) {
            x.edge(pairs[at], pairs[at + 1], 0, ALL);
        }
    }

    /** Edges from each of the keys first .. last to the next one, at place 0. */
    static void chain(CycleRows x, int first, int last) {
        for (int key = first; key < last; key++) {
            x.edge(key, key + 1, 0, ALL);
        }
    }

    /** An edge from a key to another one, again and again, until 160 have come. */
    static void fill(CycleRows x, int from, int to) {
        for (int n = 0; n < MOST_EDGES; n++) {
            if (x.edge(from, to, 0, ALL) == NONE) {
                return;
            }
        }
    }
}
