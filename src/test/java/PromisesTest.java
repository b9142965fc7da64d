/** Each promise of the document on inputs whose answers can be worked out by hand. */
public final class PromisesTest {
    private static final int[] FAR_OFF = {Integer.MIN_VALUE, -1000, -1, 1000, Integer.MAX_VALUE};
    private static final int BAD_VERTEX = -1;
    private static final int BAD_NUMBER = -2;
    private static final int MAY = 0;
    private static final int MUST = 1;
    private static final int NEVER = 2;

    private static int wrong = 0;

    private static void due(String call, long got, long want) {
        if (got != want) {
            wrong++;
            System.out.println(call + " answered " + got + ", due is " + want);
        }
    }

    public static void main(String[] args) {
        promise1NewObject();
        promise2Edges();
        promise3Mode();
        promise4Trees();
        promise5Using();
        promise6Leaf();
        promise7Degrees();
        promise8Apart();
        promise9Idle();
        promise10Needed();
        promise11Order();
        queriesChangeNothing();
        lastCallsOfALongUse();
        exampleOfTheReadme();
        System.out.println(wrong == 0 ? "all answers are as due" : wrong + " answers are not as due");
        if (wrong != 0) {
            System.exit(1);
        }
    }

    private static TreeCounter complete(int n, int edges) {
        TreeCounter x = new TreeCounter(n);
        for (int u = 0; u < n; u++) {
            for (int v = u + 1; v < n; v++) {
                x.edges(u, v, edges);
            }
        }
        return x;
    }

    private static TreeCounter path(int n, int edges) {
        TreeCounter x = new TreeCounter(n);
        for (int v = 1; v < n; v++) {
            x.edges(v - 1, v, edges);
        }
        return x;
    }

    private static TreeCounter cycle(int n) {
        TreeCounter x = path(n, 1);
        x.edges(n - 1, 0, 1);
        return x;
    }

    private static long power(long base, int exponent) {
        long result = 1;
        for (int i = 0; i < exponent; i++) {
            result *= base;
        }
        return result;
    }

    private static void promise1NewObject() {
        int[] asked = {Integer.MIN_VALUE, -1, 0, 1, 2, 3, 4, 5, 6, 7, 100, Integer.MAX_VALUE};
        int[] given = {2, 2, 2, 2, 2, 3, 4, 5, 6, 6, 6, 6};
        for (int i = 0; i < asked.length; i++) {
            String name = "1: new TreeCounter(" + asked[i] + ")";
            int n = given[i];
            TreeCounter x = new TreeCounter(asked[i]);
            due(name + " leaf of the last vertex", x.leaf(n - 1), 0);
            due(name + " leaf of no vertex", x.leaf(n), BAD_VERTEX);
            due(name + " trees", x.trees(), 0);
            due(name + " idle", x.idle(), 0);
            due(name + " needed", x.needed(), 0);
            due(name + " apart", x.apart(0, n - 1), n == 2 ? 1 : 0);
            for (int u = 0; u < n; u++) {
                for (int v = u + 1; v < n; v++) {
                    due(name + " old edges " + u + "," + v, x.edges(u, v, 1), 0);
                    due(name + " old mode " + u + "," + v, x.mode(u, v, NEVER), MAY);
                }
            }
        }
    }

    private static void promise2Edges() {
        TreeCounter x = new TreeCounter(4);
        for (int count = 0; count <= 3; count++) {
            due("2: edges(1, 2, " + count + ")", x.edges(1, 2, count), count == 0 ? 0 : count - 1);
        }
        due("2: edges(2, 1, 2), the same pair", x.edges(2, 1, 2), 3);
        due("2: edges(1, 2, 2)", x.edges(1, 2, 2), 2);
        due("2: edges(1, 3, 1), another pair", x.edges(1, 3, 1), 0);
        due("2: edges(0, 3, 1), another pair", x.edges(0, 3, 1), 0);
        due("2: trees", x.trees(), 2);
        for (int bad : FAR_OFF) {
            due("2: edges(1, 2, " + bad + ")", x.edges(1, 2, bad), BAD_NUMBER);
            due("2: edges(" + bad + ", 2, 1)", x.edges(bad, 2, 1), BAD_VERTEX);
            due("2: edges(1, " + bad + ", 1)", x.edges(1, bad, 1), BAD_VERTEX);
        }
        due("2: edges(1, 2, 4)", x.edges(1, 2, 4), BAD_NUMBER);
        due("2: edges(4, 2, 1)", x.edges(4, 2, 1), BAD_VERTEX);
        due("2: edges(1, 4, 1)", x.edges(1, 4, 1), BAD_VERTEX);
        due("2: edges(5, 4, 1)", x.edges(5, 4, 1), BAD_VERTEX);
        for (int v = 0; v < 4; v++) {
            due("2: edges(v, v, 1)", x.edges(v, v, 1), BAD_VERTEX);
        }
        due("2: trees after wrong calls", x.trees(), 2);
        due("2: edges after wrong calls", x.edges(1, 2, 0), 2);
        due("2: trees after edges are gone", x.trees(), 0);
        x.mode(1, 2, MUST);
        due("2: old edges, not old mode", x.edges(1, 2, 3), 0);
        due("2: mode is kept", x.mode(1, 2, MUST), MUST);
    }

    private static void promise3Mode() {
        TreeCounter x = path(3, 2);
        due("3: mode(0, 1, MUST)", x.mode(0, 1, MUST), MAY);
        due("3: mode(1, 0, NEVER), the same pair", x.mode(1, 0, NEVER), MUST);
        due("3: trees under NEVER", x.trees(), 0);
        due("3: mode(0, 1, MAY)", x.mode(0, 1, MAY), NEVER);
        due("3: trees under MAY", x.trees(), 4);
        due("3: mode(0, 1, MUST)", x.mode(0, 1, MUST), MAY);
        due("3: mode(2, 0, NEVER), a pair without edges", x.mode(2, 0, NEVER), MAY);
        for (int bad : FAR_OFF) {
            due("3: mode(0, 1, " + bad + ")", x.mode(0, 1, bad), BAD_NUMBER);
            due("3: mode(" + bad + ", 1, 0)", x.mode(bad, 1, MAY), BAD_VERTEX);
            due("3: mode(0, " + bad + ", 0)", x.mode(0, bad, MAY), BAD_VERTEX);
        }
        due("3: mode(0, 1, 3)", x.mode(0, 1, 3), BAD_NUMBER);
        due("3: mode(3, 1, 0)", x.mode(3, 1, MAY), BAD_VERTEX);
        due("3: mode(0, 3, 0)", x.mode(0, 3, MAY), BAD_VERTEX);
        for (int v = 0; v < 3; v++) {
            due("3: mode(v, v, 0)", x.mode(v, v, MAY), BAD_VERTEX);
        }
        due("3: trees after wrong calls", x.trees(), 4);
        due("3: mode after wrong calls", x.mode(0, 1, MAY), MUST);
        due("3: mode of a pair without edges is kept", x.mode(0, 2, MAY), NEVER);
        due("3: edges are kept", x.edges(0, 1, 2), 2);
    }

    private static void promise4Trees() {
        for (int n = 2; n <= 6; n++) {
            for (int k = 0; k <= 3; k++) {
                due("4: trees of " + n + " vertices, " + k + " edges a pair",
                    complete(n, k).trees(), power(n, n - 2) * power(k, n - 1));
            }
        }
        due("4: the most trees", complete(6, 3).trees(), 314928);
        TreeCounter x = cycle(5);
        due("4: cycle", x.trees(), 5);
        x.mode(0, 1, MUST);
        due("4: cycle with a MUST", x.trees(), 4);
        x.mode(2, 3, NEVER);
        due("4: cycle with a MUST and a NEVER", x.trees(), 1);
        x.mode(3, 4, NEVER);
        due("4: two NEVER cut the cycle", x.trees(), 0);
        TreeCounter ring = complete(4, 1);
        ring.mode(0, 1, MUST);
        ring.mode(1, 2, MUST);
        due("4: two MUST", ring.trees(), 3);
        ring.mode(0, 2, MUST);
        due("4: MUST pairs in a ring", ring.trees(), 0);
        TreeCounter bare = path(4, 3);
        bare.mode(0, 3, MUST);
        due("4: MUST without edges", bare.trees(), 0);
        TreeCounter many = complete(5, 1);
        for (int v = 1; v < 5; v++) {
            many.mode(0, v, MUST);
        }
        due("4: a MUST star", many.trees(), 1);
        many.mode(1, 2, MUST);
        due("4: more MUST pairs than a tree has", many.trees(), 0);
        TreeCounter split = new TreeCounter(6);
        for (int v : new int[] {0, 3}) {
            split.edges(v, v + 1, 1);
            split.edges(v + 1, v + 2, 1);
            split.edges(v, v + 2, 1);
        }
        due("4: two parts with rings", split.trees(), 0);
    }

    private static void promise5Using() {
        for (int n = 2; n <= 6; n++) {
            for (int k = 1; k <= 3; k++) {
                long want = 2 * power(n, n - 2) * power(k, n - 1) / n;
                due("5: using(0, n-1), n = " + n + ", k = " + k, complete(n, k).using(0, n - 1), want);
                due("5: using(1, 0), n = " + n + ", k = " + k, complete(n, k).using(1, 0), want);
            }
        }
        TreeCounter x = new TreeCounter(3);
        x.edges(0, 1, 1);
        x.edges(0, 2, 2);
        x.edges(1, 2, 3);
        due("5: using(0, 1)", x.using(0, 1), 5);
        due("5: using(2, 0)", x.using(2, 0), 8);
        due("5: using(1, 2)", x.using(1, 2), 9);
        x.mode(0, 1, MUST);
        due("5: a MUST pair", x.using(0, 1), 5);
        due("5: beside a MUST pair", x.using(0, 2), 2);
        x.mode(0, 1, NEVER);
        due("5: a NEVER pair", x.using(0, 1), 0);
        due("5: beside a NEVER pair", x.using(0, 2), 6);
        due("5: a pair without edges", path(3, 1).using(0, 2), 0);
        wrongPairs("5: using", x, true);
    }

    private static void wrongPairs(String name, TreeCounter x, boolean using) {
        int[] bad = {Integer.MIN_VALUE, -1, 3, 4, 5, 6, Integer.MAX_VALUE};
        for (int b : bad) {
            due(name + "(" + b + ", 1)", using ? x.using(b, 1) : x.apart(b, 1), BAD_VERTEX);
            due(name + "(1, " + b + ")", using ? x.using(1, b) : x.apart(1, b), BAD_VERTEX);
        }
        for (int v = 0; v < 3; v++) {
            due(name + "(v, v)", using ? x.using(v, v) : x.apart(v, v), BAD_VERTEX);
        }
    }

    private static void promise6Leaf() {
        for (int n = 2; n <= 6; n++) {
            for (int k = 1; k <= 3; k++) {
                for (int v = 0; v < n; v++) {
                    due("6: leaf(" + v + "), n = " + n + ", k = " + k,
                        complete(n, k).leaf(v), power(n - 1, n - 2) * power(k, n - 1));
                }
            }
        }
        TreeCounter x = path(4, 2);
        due("6: the end of a path", x.leaf(0), 8);
        due("6: the middle of a path", x.leaf(1), 0);
        x.edges(3, 0, 1);
        due("6: leaf on a ring", x.leaf(0), 12);
        x.mode(0, 3, MUST);
        due("6: leaf beside a MUST pair", x.leaf(0), 4);
        x.mode(0, 3, NEVER);
        due("6: leaf beside a NEVER pair", x.leaf(0), 8);
        for (int bad : FAR_OFF) {
            due("6: leaf(" + bad + ")", x.leaf(bad), BAD_VERTEX);
        }
        due("6: leaf(4)", x.leaf(4), BAD_VERTEX);
        due("6: leaf without trees", new TreeCounter(4).leaf(3), 0);
    }

    private static void promise7Degrees() {
        for (int n = 2; n <= 6; n++) {
            for (int k = 1; k <= 3; k++) {
                for (int v = 0; v < n; v++) {
                    due("7: degrees(" + v + "), n = " + n + ", k = " + k,
                        complete(n, k).degrees(v), 2 * (n - 1) * power(n, n - 2) * power(k, n - 1) / n);
                }
            }
        }
        TreeCounter x = path(4, 2);
        due("7: the end of a path", x.degrees(3), 8);
        due("7: the middle of a path", x.degrees(2), 16);
        x.edges(3, 0, 1);
        due("7: degrees on a ring", x.degrees(0), 28);
        x.mode(0, 3, MUST);
        due("7: degrees beside a MUST pair", x.degrees(0), 20);
        x.mode(0, 3, NEVER);
        due("7: degrees beside a NEVER pair", x.degrees(0), 8);
        for (int bad : FAR_OFF) {
            due("7: degrees(" + bad + ")", x.degrees(bad), BAD_VERTEX);
        }
        due("7: degrees(4)", x.degrees(4), BAD_VERTEX);
        due("7: degrees without trees", new TreeCounter(4).degrees(3), 0);
    }

    private static void promise8Apart() {
        for (int n = 3; n <= 6; n++) {
            for (int k = 0; k <= 3; k++) {
                long want = 2 * power(n, n - 3) * power(k, n - 2);
                due("8: apart(0, n-1), n = " + n + ", k = " + k, complete(n, k).apart(0, n - 1), want);
                due("8: apart(2, 1), n = " + n + ", k = " + k, complete(n, k).apart(2, 1), want);
            }
        }
        TreeCounter two = new TreeCounter(2);
        due("8: two vertices without edges", two.apart(0, 1), 1);
        two.edges(0, 1, 3);
        due("8: two vertices with edges", two.apart(1, 0), 1);
        two.mode(0, 1, NEVER);
        due("8: two vertices, NEVER", two.apart(0, 1), 1);
        two.mode(0, 1, MUST);
        due("8: two vertices, MUST", two.apart(0, 1), 0);
        TreeCounter x = path(4, 1);
        due("8: the ends of a path", x.apart(0, 3), 3);
        due("8: neighbours on a path", x.apart(0, 1), 1);
        x.mode(0, 1, MUST);
        due("8: a MUST pair itself", x.apart(0, 1), 0);
        due("8: beside a MUST pair", x.apart(0, 3), 2);
        x.mode(1, 2, NEVER);
        due("8: a NEVER pair between", x.apart(0, 3), 1);
        due("8: apart without trees, same part", x.apart(2, 3), 0);
        x.mode(0, 2, MUST);
        due("8: MUST without edges", x.apart(0, 3), 0);
        TreeCounter ring = new TreeCounter(5);
        ring.edges(0, 1, 1);
        ring.edges(1, 2, 1);
        ring.edges(0, 2, 1);
        due("8: a closed way of three", ring.apart(3, 4), 0);
        ring.edges(3, 4, 1);
        due("8: a ring beside a part", ring.apart(0, 3), 3);
        TreeCounter parallel = new TreeCounter(4);
        parallel.edges(0, 1, 2);
        due("8: a closed way of two", parallel.apart(2, 3), 0);
        wrongPairs("8: apart", complete(3, 1), false);
    }

    private static void promise9Idle() {
        TreeCounter x = complete(3, 1);
        due("9: nothing idle", x.idle(), 0);
        x.mode(0, 1, MUST);
        due("9: one MUST", x.idle(), 0);
        x.mode(1, 2, MUST);
        due("9: the pair that would close a ring", x.idle(), 1);
        x.edges(0, 2, 3);
        due("9: parallel edges count as one pair", x.idle(), 1);
        x.edges(0, 2, 0);
        due("9: a pair without edges is not counted", x.idle(), 0);
        x.mode(0, 2, NEVER);
        due("9: nor is one of mode NEVER", x.idle(), 0);
        x.edges(0, 2, 1);
        due("9: a NEVER pair with an edge", x.idle(), 1);
        x.mode(0, 1, NEVER);
        due("9: no trees, every pair with edges", x.idle(), 3);
        TreeCounter parts = new TreeCounter(4);
        parts.edges(0, 1, 2);
        parts.edges(2, 3, 1);
        due("9: two parts", parts.idle(), 2);
        due("9: the most pairs, all used", complete(6, 3).idle(), 0);
        TreeCounter all = complete(6, 1);
        for (int v = 1; v < 6; v++) {
            all.mode(0, v, MUST);
        }
        due("9: all but a star", all.idle(), 10);
    }

    private static void promise10Needed() {
        for (int n = 2; n <= 6; n++) {
            due("10: path of " + n, path(n, 3).needed(), n - 1);
            due("10: nothing at all, n = " + n, new TreeCounter(n).needed(), 0);
        }
        TreeCounter x = cycle(4);
        due("10: ring", x.needed(), 0);
        x.mode(0, 1, MUST);
        due("10: ring with a MUST", x.needed(), 1);
        x.mode(2, 3, NEVER);
        due("10: ring with a MUST and a NEVER", x.needed(), 3);
        x.mode(1, 2, NEVER);
        due("10: no trees", x.needed(), 0);
        due("10: a ring of three with parallel edges", complete(3, 2).needed(), 0);
        TreeCounter tail = new TreeCounter(4);
        tail.edges(0, 1, 1);
        tail.edges(1, 2, 1);
        tail.edges(0, 2, 1);
        tail.edges(2, 3, 3);
        due("10: a bridge with parallel edges", tail.needed(), 1);
        TreeCounter bare = path(3, 1);
        bare.mode(0, 2, MUST);
        due("10: MUST without edges", bare.needed(), 0);
    }

    private static void promise11Order() {
        due("11: BAD_VERTEX", TreeCounter.BAD_VERTEX, BAD_VERTEX);
        due("11: BAD_NUMBER", TreeCounter.BAD_NUMBER, BAD_NUMBER);
        due("11: MAY", TreeCounter.MAY, MAY);
        due("11: MUST", TreeCounter.MUST, MUST);
        due("11: NEVER", TreeCounter.NEVER, NEVER);
        TreeCounter x = new TreeCounter(5);
        int[][] badPairs = {{0, 0}, {4, 4}, {-1, 0}, {0, -1}, {5, 0}, {0, 5}, {9, 9}};
        for (int[] pair : badPairs) {
            for (int bad : FAR_OFF) {
                due("11: edges, vertex first", x.edges(pair[0], pair[1], bad), BAD_VERTEX);
                due("11: mode, vertex first", x.mode(pair[0], pair[1], bad), BAD_VERTEX);
            }
        }
    }

    private static void queriesChangeNothing() {
        TreeCounter x = cycle(5);
        x.mode(0, 1, MUST);
        for (int round = 0; round < 3; round++) {
            due("queries: trees", x.trees(), 4);
            due("queries: using", x.using(1, 2), 3);
            due("queries: leaf", x.leaf(0), 1);
            due("queries: degrees", x.degrees(0), 7);
            due("queries: apart", x.apart(0, 3), 4);
            due("queries: idle", x.idle(), 0);
            due("queries: needed", x.needed(), 1);
        }
        due("queries: edges", x.edges(0, 1, 1), 1);
        due("queries: mode", x.mode(0, 1, MUST), MUST);
    }

    private static void lastCallsOfALongUse() {
        TreeCounter x = complete(6, 3);
        for (int call = 16; call < 512; call++) {
            x.edges(0, 1, call % 4);
        }
        due("long: the 512th call", x.trees(), 314928);
    }

    private static void exampleOfTheReadme() {
        TreeCounter counter = new TreeCounter(3);
        due("README: edges(0, 1, 1)", counter.edges(0, 1, 1), 0);
        due("README: edges(0, 2, 2)", counter.edges(0, 2, 2), 0);
        due("README: edges(1, 2, 3)", counter.edges(1, 2, 3), 0);
        due("README: trees()", counter.trees(), 11);
        due("README: using(0, 2)", counter.using(0, 2), 8);
        due("README: leaf(1)", counter.leaf(1), 8);
        due("README: degrees(1)", counter.degrees(1), 14);
        due("README: apart(0, 1)", counter.apart(0, 1), 5);
        due("README: mode(0, 1, MUST)", counter.mode(0, 1, TreeCounter.MUST), MAY);
        due("README: trees() with a MUST pair", counter.trees(), 5);
        due("README: needed()", counter.needed(), 1);
        due("README: edges(0, 0, 1)", counter.edges(0, 0, 1), BAD_VERTEX);
        due("README: edges(0, 1, 4)", counter.edges(0, 1, 4), BAD_NUMBER);
    }
}
