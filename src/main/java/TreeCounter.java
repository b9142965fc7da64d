/**
 * Counts the spanning trees of a graph of two to six vertices with parallel edges.
 *
 * A set of pairs is an int whose bit p stands for pair p; a set of vertices likewise. With at most
 * 15 pairs there are at most 32768 sets of pairs, few enough to look at each of them in every call.
 */
public final class TreeCounter {
    public static final int BAD_VERTEX = -1;
    public static final int BAD_NUMBER = -2;
    public static final int MAY = 0;
    public static final int MUST = 1;
    public static final int NEVER = 2;

    private static final int FEWEST_VERTICES = 2;
    private static final int MOST_VERTICES = 6;
    private static final int MOST_PAIRS = 15;
    private static final int MOST_EDGES = 3;

    private final int vertexCount;
    private final int pairCount;
    private final int[] edgesOfPair = new int[MOST_PAIRS];
    private final int[] modeOfPair = new int[MOST_PAIRS];

    /** The two vertices of each pair, as a set of vertices. */
    private final int[] endsOfPair = new int[MOST_PAIRS];

    /** The pairs that have an edge and are not of mode NEVER. */
    private int usablePairs = 0;

    /** The pairs of mode MUST, with or without edges. */
    private int requiredPairs = 0;

    public TreeCounter(int vertices) {
        int count = vertices;
        if (count < FEWEST_VERTICES) {
            count = FEWEST_VERTICES;
        }
        if (count > MOST_VERTICES) {
            count = MOST_VERTICES;
        }
        vertexCount = count;
        pairCount = count * (count - 1) / 2;
        for (int high = 1; high < count; high++) {
            for (int low = 0; low < high; low++) {
                int pair = pairOf(low, high);
                endsOfPair[pair] = (1 << low) | (1 << high);
            }
        }
    }

    public int edges(int u, int v, int edges) {
        if (!isPair(u, v)) {
            return BAD_VERTEX;
        }
        if (edges < 0 || edges > MOST_EDGES) {
            return BAD_NUMBER;
        }
        int pair = pairOf(u, v);
        int old = edgesOfPair[pair];
        edgesOfPair[pair] = edges;
        classify(pair);
        return old;
    }

    public int mode(int u, int v, int mode) {
        if (!isPair(u, v)) {
            return BAD_VERTEX;
        }
        if (mode < MAY || mode > NEVER) {
            return BAD_NUMBER;
        }
        int pair = pairOf(u, v);
        int old = modeOfPair[pair];
        modeOfPair[pair] = mode;
        classify(pair);
        return old;
    }

    public int trees() {
        int sum = 0;
        for (int set = 0; set < 1 << pairCount; set++) {
            if (isAllowedTree(set)) {
                sum += choicesOf(set);
            }
        }
        return sum;
    }

    public int using(int u, int v) {
        if (!isPair(u, v)) {
            return BAD_VERTEX;
        }
        int pair = pairOf(u, v);
        int sum = 0;
        for (int set = 0; set < 1 << pairCount; set++) {
            if (has(set, pair) && isAllowedTree(set)) {
                sum += choicesOf(set);
            }
        }
        return sum;
    }

    public int leaf(int v) {
        if (!isVertex(v)) {
            return BAD_VERTEX;
        }
        int sum = 0;
        for (int set = 0; set < 1 << pairCount; set++) {
            if (isAllowedTree(set) && degreeIn(set, v) == 1) {
                sum += choicesOf(set);
            }
        }
        return sum;
    }

    public int degrees(int v) {
        if (!isVertex(v)) {
            return BAD_VERTEX;
        }
        int sum = 0;
        for (int set = 0; set < 1 << pairCount; set++) {
            if (isAllowedTree(set)) {
                sum += choicesOf(set) * degreeIn(set, v);
            }
        }
        return sum;
    }

    public int apart(int u, int v) {
        if (!isPair(u, v)) {
            return BAD_VERTEX;
        }
        int sum = 0;
        for (int set = 0; set < 1 << pairCount; set++) {
            if (isAllowedSplit(set, u, v)) {
                sum += choicesOf(set);
            }
        }
        return sum;
    }

    public int idle() {
        int used = 0;
        for (int set = 0; set < 1 << pairCount; set++) {
            if (isAllowedTree(set)) {
                used |= set;
            }
        }
        int count = 0;
        for (int pair = 0; pair < pairCount; pair++) {
            if (edgesOfPair[pair] > 0 && !has(used, pair)) {
                count++;
            }
        }
        return count;
    }

    public int needed() {
        boolean found = false;
        int common = (1 << pairCount) - 1;
        for (int set = 0; set < 1 << pairCount; set++) {
            if (isAllowedTree(set)) {
                found = true;
                common &= set;
            }
        }
        return found ? sizeOf(common) : 0;
    }

    private boolean isVertex(int v) {
        return v >= 0 && v < vertexCount;
    }

    private boolean isPair(int u, int v) {
        return isVertex(u) && isVertex(v) && u != v;
    }

    /** Numbers the pairs by their higher vertex first, so that n vertices take the first n(n-1)/2 numbers. */
    private static int pairOf(int u, int v) {
        int low = u < v ? u : v;
        int high = u < v ? v : u;
        return high * (high - 1) / 2 + low;
    }

    /** Keeps the two sets of pairs in step with a pair whose edges or mode were set. */
    private void classify(int pair) {
        int bit = 1 << pair;
        usablePairs &= ~bit;
        requiredPairs &= ~bit;
        if (edgesOfPair[pair] > 0 && modeOfPair[pair] != NEVER) {
            usablePairs |= bit;
        }
        if (modeOfPair[pair] == MUST) {
            requiredPairs |= bit;
        }
    }

    private static boolean has(int set, int member) {
        return (set >> member & 1) == 1;
    }

    private int sizeOf(int set) {
        int size = 0;
        for (int pair = 0; pair < pairCount; pair++) {
            size += set >> pair & 1;
        }
        return size;
    }

    private boolean isAllowed(int set) {
        return (set & ~usablePairs) == 0 && (requiredPairs & ~set) == 0;
    }

    /** A set of n - 1 pairs that connects all vertices can't have a closed way, so it is a tree. */
    private boolean isAllowedTree(int set) {
        return isAllowed(set)
            && sizeOf(set) == vertexCount - 1
            && reachedFrom(0, set) == everyVertex();
    }

    /**
     * A set of n - 2 pairs leaves at least two connected parts. If the parts of u and v have all vertices,
     * they are two different ones and the only ones, so the set has no closed way and u and v are apart.
     */
    private boolean isAllowedSplit(int set, int u, int v) {
        if (!isAllowed(set) || sizeOf(set) != vertexCount - 2) {
            return false;
        }
        int partOfU = reachedFrom(u, set);
        int partOfV = reachedFrom(v, set);
        return (partOfU | partOfV) == everyVertex();
    }

    private int everyVertex() {
        return (1 << vertexCount) - 1;
    }

    /** The vertices that the pairs of the set connect with the start; no way needs more than n - 1 rounds. */
    private int reachedFrom(int start, int set) {
        int reached = 1 << start;
        for (int round = 1; round < vertexCount; round++) {
            for (int pair = 0; pair < pairCount; pair++) {
                if (has(set, pair) && (reached & endsOfPair[pair]) != 0) {
                    reached |= endsOfPair[pair];
                }
            }
        }
        return reached;
    }

    /** In how many ways one edge of every pair of the set can be taken. */
    private int choicesOf(int set) {
        int choices = 1;
        for (int pair = 0; pair < pairCount; pair++) {
            if (has(set, pair)) {
                choices *= edgesOfPair[pair];
            }
        }
        return choices;
    }

    private int degreeIn(int set, int v) {
        int degree = 0;
        for (int pair = 0; pair < pairCount; pair++) {
            if (has(set, pair) && has(endsOfPair[pair], v)) {
                degree++;
            }
        }
        return degree;
    }
}
