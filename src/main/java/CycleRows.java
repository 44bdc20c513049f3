/**
 * Keys that ask each other by edges at places, in configurations: which keys reach each other,
 * the least ring of each such part, and the ring that an asking meets first.
 *
 * <p>All rows are made with the object and used again by every call, so that no call makes any.
 */
public final class CycleRows {
    public static final int NONE = -1;

    private static final int MOST_KEYS = 40;
    private static final int MOST_EDGES = 160;
    private static final int CONFIGURATIONS = 8;
    private static final int ALL_CONFIGURATIONS = 255;

    private static final int HAS_VALUE = 0;
    private static final int WAITS = 1;
    private static final int RINGED = 2;

    private final Keys keys;
    private final Edges edges;
    private final Reaches reaches;
    private final Told told;
    private final Asking asking;

    public CycleRows() {
        keys = new Keys();
        edges = new Edges();
        reaches = new Reaches();
        told = new Told();
        asking = new Asking();
    }

    public int key(int name) {
        return keys.add(name);
    }

    public int edge(int from, int to, int place, int configurations) {
        if (!keys.has(from) || !keys.has(to)) {
            return NONE;
        }
        return edges.add(from, to, place, configurations);
    }

    public int remove(int from, int to) {
        return edges.dropBetween(from, to);
    }

    public boolean cut(int edge) {
        return edges.drop(edge);
    }

    public int run(int configuration) {
        if (configuration < 0 || configuration >= CONFIGURATIONS) {
            return NONE;
        }
        reaches.draw(keys, edges, configuration);
        told.tell(keys, edges, reaches, configuration);
        return told.ringCount;
    }

    public int size(int i) {
        return told.hasRing(i) ? told.length(i) : 0;
    }

    public int ring(int i, int k, int what) {
        if (!told.hasRing(i) || k < 0 || k >= told.length(i)) {
            return NONE;
        }
        switch (what) {
            case 0:
                return told.keyAt(i, k);
            case 1:
                return edges.placeOf(told.edgeAt(i, k));
            case 2:
                return told.edgeAt(i, k);
            default:
                return NONE;
        }
    }

    public int only(int i) {
        return told.hasRing(i) ? told.onlyIn[i] : NONE;
    }

    public int newest(int i) {
        return told.hasRing(i) ? told.lastEdge(i) : NONE;
    }

    public int strong(int key) {
        return told.hasKey(key) ? told.partOf[key] : NONE;
    }

    public int state(int key) {
        return told.hasKey(key) ? told.stateOf[key] : NONE;
    }

    public int least(int key) {
        return told.hasKey(key) ? told.leastOf[key] : NONE;
    }

    public int ask(int key) {
        if (!keys.has(key) || told.configuration == NONE) {
            return NONE;
        }
        asking.begin(key, keys.count);
        asking.goOn(edges, told.configuration);
        return asking.metCount;
    }

    public int met(int k) {
        return k >= 0 && k < asking.metCount ? asking.metKeys[k] : NONE;
    }

    /** The keys with their names, and each key's rank: how many names come before its own. */
    private static final class Keys {
        int count = 0;
        final int[] names = new int[MOST_KEYS];
        final int[] byRank = new int[MOST_KEYS];
        final int[] rankOf = new int[MOST_KEYS];

        boolean has(int key) {
            return key >= 0 && key < count;
        }

        int add(int name) {
            if (count >= MOST_KEYS || isNamed(name)) {
                return NONE;
            }
            int added = count;
            names[added] = name;
            insert(added);
            count++;
            return added;
        }

        private boolean isNamed(int name) {
            for (int key = 0; key < count; key++) {
                if (names[key] == name) {
                    return true;
                }
            }
            return false;
        }

        /** The new key takes the rank after the lesser names; the keys behind move up by one. */
        private void insert(int added) {
            int rank = 0;
            for (int key = 0; key < added; key++) {
                if (names[key] < names[added]) {
                    rank++;
                } else {
                    rankOf[key]++;
                }
            }
            rankOf[added] = rank;
            for (int key = 0; key <= added; key++) {
                byRank[rankOf[key]] = key;
            }
        }
    }

    /** All edges that have come, in their order, those that have gone among them. */
    private static final class Edges {
        int count = 0;
        final int[] from = new int[MOST_EDGES];
        final int[] to = new int[MOST_EDGES];
        private final int[] places = new int[MOST_EDGES];
        private final int[] configurations = new int[MOST_EDGES];
        private final boolean[] gone = new boolean[MOST_EDGES];

        int add(int source, int target, int place, int bits) {
            if (count >= MOST_EDGES) {
                return NONE;
            }
            int added = count;
            from[added] = source;
            to[added] = target;
            places[added] = place;
            configurations[added] = bits & ALL_CONFIGURATIONS;
            count++;
            return added;
        }

        boolean drop(int edge) {
            if (!has(edge) || gone[edge]) {
                return false;
            }
            gone[edge] = true;
            return true;
        }

        int dropBetween(int source, int target) {
            int dropped = 0;
            for (int edge = 0; edge < count; edge++) {
                if (joins(edge, source, target) && drop(edge)) {
                    dropped++;
                }
            }
            return dropped;
        }

        int placeOf(int edge) {
            return has(edge) ? places[edge] : NONE;
        }

        boolean isIn(int edge, int configuration) {
            return has(edge) && !gone[edge] && (configurations[edge] >> configuration & 1) != 0;
        }

        /** The edge with the least place between two keys, of like ones the first that came. */
        int leastPlaced(int source, int target, int configuration) {
            int best = NONE;
            for (int edge = 0; edge < count; edge++) {
                if (joins(edge, source, target) && isIn(edge, configuration)
                        && (best == NONE || places[edge] < places[best])) {
                    best = edge;
                }
            }
            return best;
        }

        /** The configurations in which a key asks another one, by any of its edges. */
        int configurationsBetween(int source, int target) {
            int bits = 0;
            for (int edge = 0; edge < count; edge++) {
                if (joins(edge, source, target) && !gone[edge]) {
                    bits |= configurations[edge];
                }
            }
            return bits;
        }

        private boolean has(int edge) {
            return edge >= 0 && edge < count;
        }

        private boolean joins(int edge, int source, int target) {
            return from[edge] == source && to[edge] == target;
        }
    }

    /**
     * Who reaches whom in one configuration. Keys stand here by rank, and sets of them as bits, so
     * that the lowest bit of a set is its first key in the order of names.
     */
    private static final class Reaches {
        int count = 0;
        private final long[] asked = new long[MOST_KEYS];
        private final long[] reached = new long[MOST_KEYS];
        private final int[] shortest = new int[MOST_KEYS];
        private final long[] layers = new long[MOST_KEYS];

        void draw(Keys keys, Edges edges, int configuration) {
            count = keys.count;
            for (int rank = 0; rank < count; rank++) {
                asked[rank] = 0L;
            }
            for (int edge = 0; edge < edges.count; edge++) {
                if (edges.isIn(edge, configuration)) {
                    asked[keys.rankOf[edges.from[edge]]] |= 1L << keys.rankOf[edges.to[edge]];
                }
            }
            for (int rank = 0; rank < count; rank++) {
                follow(rank);
            }
        }

        /** How many keys the shortest ring through a key has; 0 if it is in none. */
        int shortestRing(int rank) {
            return shortest[rank];
        }

        boolean reachesRinged(int rank) {
            for (int other = 0; other < count; other++) {
                if (shortest[other] > 0 && contains(reached[rank], other)) {
                    return true;
                }
            }
            return false;
        }

        boolean reachEachOther(int rank, int other) {
            return contains(reached[rank], other) && contains(reached[other], rank);
        }

        /** Finds the keys that come to a key in one step, in two, and on to below so many. */
        void layTowards(int rank, int steps) {
            layers[0] = 1L << rank;
            for (int step = 1; step < steps && step < MOST_KEYS; step++) {
                layers[step] = askersOf(layers[step - 1]);
            }
        }

        /** The first key that a key asks and that comes in so many steps; NONE if none does. */
        int firstAsked(int rank, int steps) {
            long choice = asked[rank] & layers[steps];
            return choice == 0L ? NONE : lowest(choice);
        }

        /** Goes out from a key step by step; it comes back to it first by its shortest ring. */
        private void follow(int rank) {
            long seen = 0L;
            long front = asked[rank];
            shortest[rank] = 0;
            for (int step = 1; step <= count && front != 0L; step++) {
                if (contains(front, rank)) {
                    shortest[rank] = step;
                }
                seen |= front;
                front = askedBy(front) & ~seen;
            }
            reached[rank] = seen;
        }

        private long askedBy(long ranks) {
            long found = 0L;
            long left = ranks;
            for (int n = Long.bitCount(ranks); n > 0; n--) {
                found |= asked[lowest(left)];
                left &= left - 1;
            }
            return found;
        }

        private long askersOf(long ranks) {
            long found = 0L;
            for (int rank = 0; rank < count; rank++) {
                if ((asked[rank] & ranks) != 0L) {
                    found |= 1L << rank;
                }
            }
            return found;
        }

        private static boolean contains(long ranks, int rank) {
            return (ranks >>> rank & 1L) != 0L;
        }

        private static int lowest(long ranks) {
            return Long.bitCount((ranks & -ranks) - 1L);
        }
    }

    /**
     * What the latest run told. Parts share no key, so the rings' keys all stand in one row, ring
     * after ring from place 0, and need no more room than there are keys.
     */
    private static final class Told {
        int configuration = NONE;
        int ringCount = 0;
        final int[] partOf = new int[MOST_KEYS];
        final int[] stateOf = new int[MOST_KEYS];
        final int[] leastOf = new int[MOST_KEYS];
        final int[] onlyIn = new int[MOST_KEYS];
        private int keyCount = 0;
        private final int[] starts = new int[MOST_KEYS + 1];
        private final int[] ringKeys = new int[MOST_KEYS];
        private final int[] ringEdges = new int[MOST_KEYS];

        boolean hasKey(int key) {
            return key >= 0 && key < keyCount;
        }

        boolean hasRing(int i) {
            return i >= 0 && i < ringCount;
        }

        int length(int i) {
            return starts[i + 1] - starts[i];
        }

        int keyAt(int i, int k) {
            return ringKeys[starts[i] + k];
        }

        int edgeAt(int i, int k) {
            return ringEdges[starts[i] + k];
        }

        int lastEdge(int i) {
            int last = NONE;
            for (int at = starts[i]; at < starts[i + 1]; at++) {
                last = Math.max(last, ringEdges[at]);
            }
            return last;
        }

        void tell(Keys keys, Edges edges, Reaches reaches, int inConfiguration) {
            configuration = inConfiguration;
            keyCount = keys.count;
            tellKeys(keys, reaches);
            numberParts(keys, reaches);
            tellRings(keys, reaches);
            for (int i = 0; i < ringCount; i++) {
                tellEdges(i, edges);
            }
        }

        private void tellKeys(Keys keys, Reaches reaches) {
            for (int rank = 0; rank < keyCount; rank++) {
                int key = keys.byRank[rank];
                leastOf[key] = reaches.shortestRing(rank);
                if (leastOf[key] > 0) {
                    stateOf[key] = RINGED;
                } else {
                    stateOf[key] = reaches.reachesRinged(rank) ? WAITS : HAS_VALUE;
                }
            }
        }

        private void numberParts(Keys keys, Reaches reaches) {
            int parts = 0;
            for (int rank = 0; rank < keyCount; rank++) {
                int first = firstOfPart(rank, reaches);
                if (first == rank) {
                    partOf[keys.byRank[rank]] = parts;
                    parts++;
                } else {
                    partOf[keys.byRank[rank]] = partOf[keys.byRank[first]];
                }
            }
        }

        private void tellRings(Keys keys, Reaches reaches) {
            ringCount = 0;
            for (int rank = 0; rank < keyCount; rank++) {
                if (reaches.shortestRing(rank) > 0 && firstOfPart(rank, reaches) == rank) {
                    tellRing(leastRinged(rank, reaches), keys, reaches);
                }
            }
        }

        private int firstOfPart(int rank, Reaches reaches) {
            for (int first = 0; first < rank; first++) {
                if (reaches.reachEachOther(first, rank)) {
                    return first;
                }
            }
            return rank;
        }

        /** The first key of a part through which one of the part's shortest rings goes. */
        private int leastRinged(int first, Reaches reaches) {
            int best = first;
            for (int rank = first + 1; rank < keyCount; rank++) {
                if (reaches.reachEachOther(first, rank)
                        && reaches.shortestRing(rank) < reaches.shortestRing(best)) {
                    best = rank;
                }
            }
            return best;
        }

        /**
         * From the ring's first key always on to the first key that still comes back in time. No
         * key before the first one can come up: it would be in a ring as short, and begin it. None
         * can come up twice: without the steps between, the first one's ring would be shorter.
         */
        private void tellRing(int first, Keys keys, Reaches reaches) {
            int length = reaches.shortestRing(first);
            int end = starts[ringCount];
            reaches.layTowards(first, length);
            int rank = first;
            for (int left = length - 1; left >= 0 && rank != NONE && end < MOST_KEYS; left--) {
                ringKeys[end] = keys.byRank[rank];
                end++;
                rank = reaches.firstAsked(rank, left);
            }
            ringCount++;
            starts[ringCount] = end;
        }

        private void tellEdges(int i, Edges edges) {
            int shared = ALL_CONFIGURATIONS;
            for (int at = starts[i]; at < starts[i + 1]; at++) {
                int key = ringKeys[at];
                int next = ringKeys[at + 1 < starts[i + 1] ? at + 1 : starts[i]];
                ringEdges[at] = edges.leastPlaced(key, next, configuration);
                shared &= edges.configurationsBetween(key, next);
            }
            onlyIn[i] = shared == 1 << configuration ? configuration : NONE;
        }
    }

    /** An asking, with the keys that are open (asked, not yet at their end) in a row. */
    private static final class Asking {
        int metCount = 0;
        final int[] metKeys = new int[MOST_KEYS];
        private int openCount = 0;
        private final int[] open = new int[MOST_KEYS];
        private final int[] nextEdge = new int[MOST_KEYS];
        private final boolean[] wasAsked = new boolean[MOST_KEYS];

        void begin(int key, int keyCount) {
            for (int other = 0; other < keyCount; other++) {
                wasAsked[other] = false;
            }
            metCount = 0;
            openCount = 0;
            push(key);
        }

        /** Each step opens a key, closes one or meets a ring: two steps a key are enough. */
        void goOn(Edges edges, int configuration) {
            for (int step = 0; step < 2 * MOST_KEYS && openCount > 0; step++) {
                int target = nextTarget(open[openCount - 1], edges, configuration);
                if (target == NONE) {
                    openCount--;
                } else if (wasAsked[target]) {
                    meet(target);
                    return;
                } else {
                    push(target);
                }
            }
        }

        private void push(int key) {
            if (openCount < MOST_KEYS) {
                open[openCount] = key;
                openCount++;
                wasAsked[key] = true;
                nextEdge[key] = 0;
            }
        }

        /** The next key that a key asks and that is open or new; NONE at the key's end. */
        private int nextTarget(int key, Edges edges, int configuration) {
            for (int edge = nextEdge[key]; edge < edges.count; edge++) {
                if (edges.from[edge] == key && edges.isIn(edge, configuration)) {
                    int target = edges.to[edge];
                    if (!wasAsked[target] || openAt(target) != NONE) {
                        nextEdge[key] = edge + 1;
                        return target;
                    }
                }
            }
            return NONE;
        }

        private int openAt(int key) {
            for (int at = 0; at < openCount; at++) {
                if (open[at] == key) {
                    return at;
                }
            }
            return NONE;
        }

        private void meet(int key) {
            int start = openAt(key);
            if (start == NONE) {
                return;
            }
            metCount = openCount - start;
            System.arraycopy(open, start, metKeys, 0, metCount);
        }
    }
}
