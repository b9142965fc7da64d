import java.util.ArrayList;
import java.util.List;

/**
 * Compares every query with a reference that goes over single edges, not pairs, and knows nothing of
 * how the class counts. Every state of two and of three vertices is tried; the longer runs
 * come from a fixed sequence of numbers, so they are the same each time.
 */
public final class ReferenceTest {
    private static final int[] ODD_NUMBERS = {Integer.MIN_VALUE, -2, -1, 4, 7, Integer.MAX_VALUE};

    private static int wrong = 0;
    private static long seed = 20240229L;

    private final int n;
    private final TreeCounter x;
    private final int[][] edges = new int[6][6];
    private final int[][] modes = new int[6][6];
    private int calls = 0;

    private List<int[]> singleEdges;
    private final List<int[]> chosen = new ArrayList<>();
    private int trees;
    private final int[][] using = new int[6][6];
    private final int[] leaf = new int[6];
    private final int[] degrees = new int[6];
    private final int[][] apart = new int[6][6];

    private ReferenceTest(int n) {
        this.n = n;
        this.x = new TreeCounter(n);
    }

    public static void main(String[] args) {
        everyState(2, 12);
        everyState(3, 12 * 12 * 12);
        for (int run = 0; run < 400; run++) {
            new ReferenceTest(2 + run % 5).play(run);
        }
        System.out.println(wrong == 0 ? "all answers are as due" : wrong + " answers are not as due");
        if (wrong != 0) {
            System.exit(1);
        }
    }

    /** A pair has 12 states, 4 numbers of edges with 3 modes each: a digit of the state's number to base 12. */
    private static void everyState(int n, int states) {
        for (int state = 0; state < states; state++) {
            ReferenceTest test = new ReferenceTest(n);
            int rest = state;
            for (int u = 0; u < n; u++) {
                for (int v = u + 1; v < n; v++) {
                    test.setEdges(u, v, rest % 4);
                    test.setMode(u, v, rest / 4 % 3);
                    rest /= 12;
                }
            }
            test.checkAll();
        }
    }

    private static int next(int bound) {
        seed = seed * 6364136223846793005L + 1442695040888963407L;
        return (int) ((seed >>> 33) % bound);
    }

    private void due(String call, int got, int want) {
        calls++;
        if (got != want) {
            wrong++;
            System.out.println("n = " + n + ": " + call + " answered " + got + ", due is " + want);
        }
    }

    private void play(int run) {
        int density = 1 + run % 4;
        for (int u = 0; u < n; u++) {
            for (int v = u + 1; v < n; v++) {
                setEdges(u, v, next(4) < density ? 1 + next(run % 3 + 1) : 0);
                if (next(6) == 0) {
                    setMode(v, u, next(3));
                }
            }
        }
        checkAll();
        while (calls + 90 < 512 && next(8) != 0) {
            for (int change = 0; change < 4; change++) {
                anyChange();
            }
            checkAll();
        }
    }

    private void anyChange() {
        int u = next(n + 2) - 1;
        int v = next(n + 2) - 1;
        int number = next(12) == 0 ? ODD_NUMBERS[next(ODD_NUMBERS.length)] : next(4);
        if (next(2) == 0) {
            setEdges(u, v, number);
        } else {
            setMode(u, v, number);
        }
    }

    private boolean isPair(int u, int v) {
        return u >= 0 && u < n && v >= 0 && v < n && u != v;
    }

    private void setEdges(int u, int v, int number) {
        int want = !isPair(u, v) ? -1 : number < 0 || number > 3 ? -2 : edges[u][v];
        due("edges(" + u + ", " + v + ", " + number + ")", x.edges(u, v, number), want);
        if (want >= 0) {
            edges[u][v] = number;
            edges[v][u] = number;
        }
    }

    private void setMode(int u, int v, int number) {
        int want = !isPair(u, v) ? -1 : number < 0 || number > 2 ? -2 : modes[u][v];
        due("mode(" + u + ", " + v + ", " + number + ")", x.mode(u, v, number), want);
        if (want >= 0) {
            modes[u][v] = number;
            modes[v][u] = number;
        }
    }

    private void checkAll() {
        tally();
        due("trees()", x.trees(), trees);
        for (int u = 0; u < n; u++) {
            due("leaf(" + u + ")", x.leaf(u), leaf[u]);
            due("degrees(" + u + ")", x.degrees(u), degrees[u]);
            for (int v = 0; v < n; v++) {
                due("using(" + u + ", " + v + ")", x.using(u, v), u == v ? -1 : using[u][v]);
                due("apart(" + u + ", " + v + ")", x.apart(u, v), u == v ? -1 : apart[u][v]);
            }
        }
        int idle = 0;
        int needed = 0;
        for (int u = 0; u < n; u++) {
            for (int v = u + 1; v < n; v++) {
                idle += edges[u][v] > 0 && using[u][v] == 0 ? 1 : 0;
                needed += trees > 0 && using[u][v] == trees ? 1 : 0;
            }
        }
        due("idle()", x.idle(), idle);
        due("needed()", x.needed(), needed);
    }

    private void tally() {
        singleEdges = new ArrayList<>();
        trees = 0;
        for (int u = 0; u < n; u++) {
            leaf[u] = 0;
            degrees[u] = 0;
            for (int v = 0; v < n; v++) {
                using[u][v] = 0;
                apart[u][v] = 0;
                for (int e = 0; u < v && e < edges[u][v]; e++) {
                    singleEdges.add(new int[] {u, v});
                }
            }
        }
        int[] part = new int[n];
        for (int v = 0; v < n; v++) {
            part[v] = v;
        }
        extend(0, part);
    }

    /** Takes or leaves each single edge in turn; an edge inside one part would close a way. */
    private void extend(int from, int[] part) {
        if (chosen.size() == n - 2 && modesHold()) {
            countForest(part);
        }
        if (chosen.size() == n - 1) {
            if (modesHold()) {
                countTree();
            }
            return;
        }
        for (int i = from; i < singleEdges.size(); i++) {
            int[] edge = singleEdges.get(i);
            int a = part[edge[0]];
            int b = part[edge[1]];
            if (a == b) {
                continue;
            }
            int[] joined = part.clone();
            for (int v = 0; v < n; v++) {
                joined[v] = part[v] == b ? a : part[v];
            }
            chosen.add(edge);
            extend(i + 1, joined);
            chosen.remove(chosen.size() - 1);
        }
    }

    private boolean modesHold() {
        boolean[][] used = new boolean[n][n];
        for (int[] edge : chosen) {
            used[edge[0]][edge[1]] = true;
        }
        for (int u = 0; u < n; u++) {
            for (int v = u + 1; v < n; v++) {
                if (modes[u][v] == 1 && !used[u][v] || modes[u][v] == 2 && used[u][v]) {
                    return false;
                }
            }
        }
        return true;
    }

    private void countTree() {
        int[] degree = new int[n];
        trees++;
        for (int[] edge : chosen) {
            degree[edge[0]]++;
            degree[edge[1]]++;
            using[edge[0]][edge[1]]++;
            using[edge[1]][edge[0]]++;
        }
        for (int v = 0; v < n; v++) {
            leaf[v] += degree[v] == 1 ? 1 : 0;
            degrees[v] += degree[v];
        }
    }

    private void countForest(int[] part) {
        for (int u = 0; u < n; u++) {
            for (int v = 0; v < n; v++) {
                apart[u][v] += part[u] != part[v] ? 1 : 0;
            }
        }
    }
}
