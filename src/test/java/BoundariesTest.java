import java.util.ArrayList;
import java.util.Arrays;
import java.util.List;

/**
 * Each sentence of the document that names a boundary has a method here, which quotes it and tries the
 * values on the boundary, next to it and far beyond it. Far beyond are also the numbers that a shift or
 * a cast would fold back to a good one (32 to 0, 256 to 0, ...).
 */
public final class BoundariesTest {
    private static final int LEAST = Integer.MIN_VALUE;
    private static final int GREATEST = Integer.MAX_VALUE;
    private static final int[] FAR_OFF = {
        LEAST, LEAST + 1, LEAST + 2, -65536, -65535, -256, -255, -32, -31, -7, -6, -5, -4, -3, -2, -1,
        7, 8, 31, 32, 33, 64, 65, 256, 257, 65536, 65537, GREATEST - 1, GREATEST};

    private static final int BAD_VERTEX = -1;
    private static final int BAD_NUMBER = -2;
    private static final int MAY = 0;
    private static final int MUST = 1;
    private static final int NEVER = 2;

    private interface Call {
        int on(TreeCounter x);
    }

    private record Named(String name, Call call) {
    }

    private static int wrong = 0;
    private static String sentence = "";

    private static void due(String call, long got, long want) {
        if (got != want) {
            wrong++;
            System.out.println("\"" + sentence + "\": " + call + " answered " + got + ", due is " + want);
        }
    }

    public static void main(String[] args) {
        useAndTerms();
        promise1();
        promises2And3();
        promises4To7();
        promise8();
        promises9And10();
        promise11();
        System.out.println(wrong == 0 ? "all answers are as due" : wrong + " answers are not as due");
        if (wrong != 0) {
            System.exit(1);
        }
    }

    private static void useAndTerms() {
        atMost512Calls();
        twoToSixVertices();
        everyPairHas0To3EdgesAndAMode();
        aTreeHasOneEdgeLessThanVertices();
        aTreeConnectsAllVertices();
        aTreeCannotHaveTwoEdgesOfAPair();
        differentEdgesOfAPairMakeDifferentTrees();
        anAllowedTreeUsesEveryMustPair();
        anAllowedTreeUsesNoNeverPair();
        noAnswerIsAbove600000();
        queriesChangeNothing();
        queriesRefuseWrongPairs();
    }

    private static void promise1() {
        tooFewVerticesBecome2();
        tooManyVerticesBecome6();
        verticesBetweenAreKept();
        aNewObjectHasNoEdges();
        aNewObjectHasModeMayEverywhere();
    }

    private static void promises2And3() {
        aPairIsTheSameEitherWayRound();
        edgesRefusesWrongVertices();
        edgesRefusesAVertexWithItself();
        edgesRefusesWrongNumbers();
        edgesTakesEveryRightNumber();
        edgesAnswersTheOldNumber();
        refusedEdgesChangeNothing();
        modeRefusesWrongPairs();
        modeRefusesWrongModes();
        modeTakesEveryRightMode();
        modeAnswersTheOldMode();
        refusedModesChangeNothing();
    }

    private static void promises4To7() {
        treesOfTheEmptiestAndTheFullest();
        usingOfPairsThatNoneOrAllUse();
        leafHasExactlyOneEdge();
        leafRefusesWrongVertices();
        degreesOfTheEmptiestAndTheFullest();
        degreesRefusesWrongVertices();
    }

    private static void promise8() {
        apartTakesTwoEdgesLessThanVertices();
        apartUsesNoNeverPair();
        apartUsesEveryMustPair();
        apartHasNoClosedWay();
        apartDoesNotConnectThem();
        apartHasAllVertices();
        apartRefusesWrongPairs();
    }

    private static void promises9And10() {
        idlePairsHaveAtLeastOneEdge();
        idlePairsAreUsedByNoAllowedTree();
        neededPairsAreUsedByEveryTree();
        neededIs0WithoutTrees();
    }

    private static void promise11() {
        edgesTestsTheVertexFirst();
        modeTestsTheVertexFirst();
    }

    // Graphs

    /** A graph of n vertices from rows of u, v, number of edges. */
    private static TreeCounter graph(int n, int[]... rows) {
        TreeCounter x = new TreeCounter(n);
        for (int[] row : rows) {
            x.edges(row[0], row[1], row[2]);
        }
        return x;
    }

    private static TreeCounter full(int n, int edges) {
        TreeCounter x = new TreeCounter(n);
        for (int[] pair : pairs(n)) {
            x.edges(pair[0], pair[1], edges);
        }
        return x;
    }

    /** Vertex 0 is joined to every other one. */
    private static TreeCounter star(int n, int edges) {
        TreeCounter x = new TreeCounter(n);
        for (int v = 1; v < n; v++) {
            x.edges(0, v, edges);
        }
        return x;
    }

    /**
     * No pair has 0 or 3 edges and pair 0, 1 has the middle mode, so that a wrong call that is taken in,
     * as it is or clamped, shows in the state.
     */
    private static TreeCounter sample(int n) {
        TreeCounter x = new TreeCounter(n);
        for (int[] pair : pairs(n)) {
            x.edges(pair[0], pair[1], 1 + (pair[0] + pair[1]) % 2);
        }
        x.mode(0, 1, MUST);
        if (n > 3) {
            x.mode(2, 3, NEVER);
        }
        return x;
    }

    private static void allModes(TreeCounter x, int n, int mode) {
        for (int[] pair : pairs(n)) {
            x.mode(pair[0], pair[1], mode);
        }
    }

    private static List<int[]> pairs(int n) {
        List<int[]> pairs = new ArrayList<>();
        for (int u = 0; u < n; u++) {
            for (int v = u + 1; v < n; v++) {
                pairs.add(new int[] {u, v});
            }
        }
        return pairs;
    }

    private static List<Integer> notIn(int least, int greatest) {
        List<Integer> values = new ArrayList<>();
        for (int value = -1; value <= 7; value++) {
            if (value < least || value > greatest) {
                values.add(value);
            }
        }
        for (int value : FAR_OFF) {
            values.add(value);
        }
        return values;
    }

    private static List<int[]> pairsWithAWrongVertex(int n) {
        List<int[]> wrongPairs = new ArrayList<>();
        for (int bad : notIn(0, n - 1)) {
            for (int v = 0; v < n; v++) {
                wrongPairs.add(new int[] {bad, v});
                wrongPairs.add(new int[] {v, bad});
            }
            wrongPairs.add(new int[] {bad, bad});
            wrongPairs.add(new int[] {bad, GREATEST});
            wrongPairs.add(new int[] {LEAST, bad});
        }
        return wrongPairs;
    }

    private static List<int[]> wrongPairs(int n) {
        List<int[]> wrongPairs = pairsWithAWrongVertex(n);
        for (int v = 0; v < n; v++) {
            wrongPairs.add(new int[] {v, v});
        }
        return wrongPairs;
    }

    // States

    private static List<Named> queries(int n) {
        List<Named> queries = new ArrayList<>();
        queries.add(new Named("trees()", x -> x.trees()));
        queries.add(new Named("idle()", x -> x.idle()));
        queries.add(new Named("needed()", x -> x.needed()));
        for (int v = 0; v < n; v++) {
            int at = v;
            queries.add(new Named("leaf(" + at + ")", x -> x.leaf(at)));
            queries.add(new Named("degrees(" + at + ")", x -> x.degrees(at)));
        }
        for (int[] p : pairs(n)) {
            queries.add(new Named("using" + Arrays.toString(p), x -> x.using(p[0], p[1])));
            queries.add(new Named("apart" + Arrays.toString(p), x -> x.apart(p[0], p[1])));
        }
        return queries;
    }

    /** Every answer, number of edges and mode; with the sample's making, far below 512 calls. */
    private static int[] stateOf(TreeCounter x, int n) {
        List<Integer> state = new ArrayList<>();
        for (Named query : queries(n)) {
            state.add(query.call.on(x));
        }
        for (int[] pair : pairs(n)) {
            int edges = x.edges(pair[0], pair[1], 0);
            int mode = x.mode(pair[0], pair[1], MAY);
            x.edges(pair[0], pair[1], edges);
            x.mode(pair[0], pair[1], mode);
            state.add(edges);
            state.add(mode);
        }
        return state.stream().mapToInt(Integer::intValue).toArray();
    }

    /** Each call is made on a sample of its own. */
    private static void dueNoChange(int n, List<Named> calls) {
        int[] untouched = stateOf(sample(n), n);
        for (Named named : calls) {
            TreeCounter x = sample(n);
            named.call.on(x);
            int[] state = stateOf(x, n);
            due("n = " + n + ", after " + named.name + " the first change in the state",
                Arrays.mismatch(state, untouched), -1);
        }
    }

    // The use of an object, and the terms

    private static void atMost512Calls() {
        sentence = "An object is used for at most 512 calls after it has been made";
        for (Named query : queries(6)) {
            TreeCounter fresh = full(6, 3);
            TreeCounter used = full(6, 3);
            int want = query.call.on(fresh);
            for (int call = 15; call < 511; call++) {
                used.edges(4, 5, call == 510 ? 3 : call % 4);
            }
            due("the 512th call, " + query.name, query.call.on(used), want);
        }
        TreeCounter set = new TreeCounter(6);
        for (int call = 0; call < 511; call++) {
            set.mode(5, 0, call % 3);
        }
        due("the 512th call, mode", set.mode(0, 5, MAY), 510 % 3);
    }

    private static void twoToSixVertices() {
        sentence = "There are two to six VERTICES (0 to n - 1)";
        for (int n = 2; n <= 6; n++) {
            TreeCounter x = star(n, 1);
            due("n = " + n + ", trees", x.trees(), 1);
            due("n = " + n + ", degrees of the first", x.degrees(0), n - 1);
            due("n = " + n + ", degrees of the last", x.degrees(n - 1), 1);
            due("n = " + n + ", one below the first", x.degrees(-1), BAD_VERTEX);
            due("n = " + n + ", one above the last", x.degrees(n), BAD_VERTEX);
        }
    }

    private static void everyPairHas0To3EdgesAndAMode() {
        sentence = "every pair of different vertices has 0 to 3 parallel EDGES and a mode";
        for (int n = 2; n <= 6; n++) {
            TreeCounter x = new TreeCounter(n);
            int number = 0;
            for (int[] pair : pairs(n)) {
                x.edges(pair[0], pair[1], number % 4);
                x.mode(pair[0], pair[1], number % 3);
                number++;
            }
            number = 0;
            for (int[] pair : pairs(n)) {
                String name = "n = " + n + ", pair " + Arrays.toString(pair);
                due(name + ", edges", x.edges(pair[0], pair[1], 3), number % 4);
                due(name + ", mode", x.mode(pair[0], pair[1], NEVER), number % 3);
                number++;
            }
        }
    }

    private static void aTreeHasOneEdgeLessThanVertices() {
        sentence = "A SPANNING TREE is a set of n - 1 edges";
        for (int n = 2; n <= 6; n++) {
            TreeCounter x = star(n, 1);
            due("n = " + n + ", n - 1 edges", x.trees(), 1);
            x.edges(0, n - 1, 0);
            due("n = " + n + ", n - 2 edges", x.trees(), 0);
        }
        for (int n = 3; n <= 6; n++) {
            TreeCounter x = star(n, 1);
            x.edges(1, 2, 1);
            due("n = " + n + ", n edges", x.trees(), 3);
        }
    }

    private static void aTreeConnectsAllVertices() {
        sentence = "that connects all vertices";
        TreeCounter ring = graph(4, new int[] {0, 1, 1}, new int[] {1, 2, 1}, new int[] {0, 2, 1});
        due("a ring of n - 1 edges beside one vertex", ring.trees(), 0);
        for (int alone = 0; alone < 6; alone++) {
            TreeCounter x = full(6, 3);
            for (int step = 1; step < 6; step++) {
                x.edges(alone, (alone + step) % 6, 0);
            }
            due("all but vertex " + alone + " joined", x.trees(), 0);
            x.edges(alone, (alone + 1) % 6, 1);
            due("vertex " + alone + " joined by one edge", x.trees(), 125 * 81);
        }
    }

    private static void aTreeCannotHaveTwoEdgesOfAPair() {
        sentence = "it USES a pair if it has one of its edges (it can't have two of them)";
        due("n = 2, three edges", graph(2, new int[] {0, 1, 3}).trees(), 3);
        due("n = 3, two edges of one pair", graph(3, new int[] {0, 1, 2}).trees(), 0);
        due("n = 4, three edges of one pair", graph(4, new int[] {1, 2, 3}).trees(), 0);
        TreeCounter x = graph(3, new int[] {0, 1, 2}, new int[] {1, 2, 1});
        due("n = 3, two edges and one", x.trees(), 2);
        due("n = 3, two edges and one, using", x.using(0, 1), 2);
        due("n = 3, two edges and one, degrees", x.degrees(0), 2);
        due("n = 3, two edges and one, leaf", x.leaf(0), 2);
    }

    private static void differentEdgesOfAPairMakeDifferentTrees() {
        sentence = "Trees that have different edges of the same pair are different";
        int[][] counts = {{0, 0, 0, 0}, {1, 1, 1, 1}, {4, 8, 16, 32}, {9, 27, 81, 243}};
        for (int edges = 0; edges <= 3; edges++) {
            for (int n = 3; n <= 6; n++) {
                due("star, n = " + n + ", " + edges + " edges", star(n, edges).trees(), counts[edges][n - 3]);
            }
        }
    }

    private static void anAllowedTreeUsesEveryMustPair() {
        sentence = "A tree is ALLOWED if it uses every pair of mode MUST";
        TreeCounter bare = star(4, 2);
        bare.mode(1, 2, MUST);
        due("a MUST pair without edges", bare.trees(), 0);
        bare.edges(1, 2, 1);
        due("the same with one edge", bare.trees(), 8);
        for (int n = 2; n <= 6; n++) {
            TreeCounter x = full(n, 1);
            for (int v = 1; v < n; v++) {
                x.mode(0, v, MUST);
            }
            due("n = " + n + ", n - 1 MUST pairs", x.trees(), 1);
            allModes(x, n, MUST);
            due("n = " + n + ", every pair MUST", x.trees(), n == 2 ? 1 : 0);
        }
        TreeCounter ring = full(6, 1);
        ring.mode(3, 4, MUST);
        ring.mode(4, 5, MUST);
        due("two MUST pairs", ring.trees(), 108);
        ring.mode(3, 5, MUST);
        due("a ring of MUST pairs", ring.trees(), 0);
    }

    private static void anAllowedTreeUsesNoNeverPair() {
        sentence = "and no pair of mode NEVER";
        for (int n = 2; n <= 6; n++) {
            TreeCounter x = full(n, 3);
            allModes(x, n, NEVER);
            due("n = " + n + ", every pair NEVER", x.trees(), 0);
            for (int v = 1; v < n; v++) {
                due("n = " + n + ", too few pairs MAY", x.trees(), 0);
                x.mode(0, v, MAY);
            }
            due("n = " + n + ", n - 1 pairs MAY", x.trees(), star(n, 3).trees());
        }
        TreeCounter bare = star(3, 1);
        bare.mode(1, 2, NEVER);
        due("a NEVER pair without edges", bare.trees(), 1);
    }

    private static void noAnswerIsAbove600000() {
        sentence = "No answer is above 600000";
        TreeCounter x = full(6, 3);
        due("the most trees", x.trees(), 314928);
        for (int v = 0; v < 6; v++) {
            due("the most of leaf(" + v + ")", x.leaf(v), 151875);
            due("the most of degrees(" + v + ")", x.degrees(v), 524880);
        }
        for (int[] pair : pairs(6)) {
            due("the most of using " + Arrays.toString(pair), x.using(pair[0], pair[1]), 104976);
            due("the most of apart " + Arrays.toString(pair), x.apart(pair[0], pair[1]), 34992);
        }
    }

    private static void queriesChangeNothing() {
        sentence = "The calls below change nothing";
        for (int n = 2; n <= 6; n++) {
            dueNoChange(n, queries(n));
            List<Named> refused = new ArrayList<>();
            for (int bad : new int[] {LEAST, -1, n, GREATEST}) {
                refused.add(new Named("leaf(" + bad + ")", x -> x.leaf(bad)));
                refused.add(new Named("degrees(" + bad + ")", x -> x.degrees(bad)));
                refused.add(new Named("using(" + bad + ", 1)", x -> x.using(bad, 1)));
                refused.add(new Named("apart(0, " + bad + ")", x -> x.apart(0, bad)));
            }
            refused.add(new Named("using(1, 1)", x -> x.using(1, 1)));
            refused.add(new Named("apart(1, 1)", x -> x.apart(1, 1)));
            dueNoChange(n, refused);
        }
    }

    private static void queriesRefuseWrongPairs() {
        sentence = "BAD_VERTEX as above where two vertices are named";
        for (int n = 2; n <= 6; n++) {
            for (int[] p : wrongPairs(n)) {
                String name = "n = " + n + ", " + Arrays.toString(p);
                due(name + ", using", sample(n).using(p[0], p[1]), BAD_VERTEX);
                due(name + ", using without trees", new TreeCounter(n).using(p[0], p[1]), BAD_VERTEX);
                due(name + ", apart", sample(n).apart(p[0], p[1]), BAD_VERTEX);
            }
        }
    }

    // Promise 1

    private static void dueVertices(int asked, int given) {
        TreeCounter x = new TreeCounter(asked);
        String name = "new TreeCounter(" + asked + ")";
        due(name + ", the last vertex", x.leaf(given - 1), 0);
        due(name + ", one too many", x.leaf(given), BAD_VERTEX);
        for (int[] pair : pairs(given)) {
            x.edges(pair[0], pair[1], 1);
        }
        due(name + ", trees", x.trees(), new int[] {1, 3, 16, 125, 1296}[given - 2]);
    }

    private static void tooFewVerticesBecome2() {
        sentence = "below 2 becomes 2";
        for (int asked : new int[] {LEAST, LEAST + 1, LEAST + 2, LEAST + 6, -65533, -253, -6, -3, -2, -1, 0, 1}) {
            dueVertices(asked, 2);
        }
    }

    private static void tooManyVerticesBecome6() {
        sentence = "above 6 becomes 6";
        for (int asked : new int[] {7, 8, 9, 15, 16, 32, 34, 64, 259, 65540, 1 << 30, GREATEST - 1, GREATEST}) {
            dueVertices(asked, 6);
        }
    }

    private static void verticesBetweenAreKept() {
        sentence = "vertices is clamped into 2 to 6";
        for (int asked = 2; asked <= 6; asked++) {
            dueVertices(asked, asked);
        }
    }

    private static final int[][] ASKED_AND_GIVEN = {
        {LEAST, 2}, {-1, 2}, {0, 2}, {1, 2}, {2, 2}, {3, 3}, {4, 4}, {5, 5}, {6, 6}, {7, 6}, {GREATEST, 6}};

    private static void aNewObjectHasNoEdges() {
        sentence = "No edges";
        for (int[] row : ASKED_AND_GIVEN) {
            TreeCounter x = new TreeCounter(row[0]);
            String name = "new TreeCounter(" + row[0] + ")";
            due(name + ", trees", x.trees(), 0);
            due(name + ", idle", x.idle(), 0);
            for (int[] pair : pairs(row[1])) {
                due(name + ", edges of " + Arrays.toString(pair), x.edges(pair[0], pair[1], 1), 0);
            }
        }
    }

    private static void aNewObjectHasModeMayEverywhere() {
        sentence = "every pair has mode MAY";
        for (int[] row : ASKED_AND_GIVEN) {
            TreeCounter x = new TreeCounter(row[0]);
            String name = "new TreeCounter(" + row[0] + ")";
            for (int[] pair : pairs(row[1])) {
                due(name + ", mode of " + Arrays.toString(pair), x.mode(pair[0], pair[1], MUST), MAY);
            }
        }
    }

    // Promises 2 and 3

    private static void aPairIsTheSameEitherWayRound() {
        sentence = "the pair u, v (the same as v, u)";
        for (int n = 2; n <= 6; n++) {
            for (int[] p : pairs(n)) {
                String name = "n = " + n + ", " + Arrays.toString(p);
                TreeCounter x = new TreeCounter(n);
                x.edges(p[0], p[1], 2);
                due(name + ", edges turned round", x.edges(p[1], p[0], 3), 2);
                due(name + ", edges turned back", x.edges(p[0], p[1], 1), 3);
                x.mode(p[1], p[0], NEVER);
                due(name + ", mode turned round", x.mode(p[0], p[1], MUST), NEVER);
                due(name + ", mode turned back", x.mode(p[1], p[0], MAY), MUST);
                TreeCounter y = sample(n);
                due(name + ", using turned round", y.using(p[1], p[0]), y.using(p[0], p[1]));
                due(name + ", apart turned round", y.apart(p[1], p[0]), y.apart(p[0], p[1]));
            }
        }
    }

    private static void edgesRefusesWrongVertices() {
        sentence = "u or v not in 0 to n - 1 [...]: BAD_VERTEX";
        for (int n = 2; n <= 6; n++) {
            for (int[] p : pairsWithAWrongVertex(n)) {
                due("n = " + n + ", edges " + Arrays.toString(p), sample(n).edges(p[0], p[1], 1), BAD_VERTEX);
            }
        }
    }

    private static void edgesRefusesAVertexWithItself() {
        sentence = "or u == v: BAD_VERTEX";
        for (int n = 2; n <= 6; n++) {
            for (int v = 0; v < n; v++) {
                for (int number = 0; number <= 3; number++) {
                    due("n = " + n + ", edges of " + v, sample(n).edges(v, v, number), BAD_VERTEX);
                }
            }
        }
    }

    private static void edgesRefusesWrongNumbers() {
        sentence = "edges not in 0 to 3: BAD_NUMBER";
        for (int n = 2; n <= 6; n++) {
            for (int number : notIn(0, 3)) {
                due("n = " + n + ", edges(0, 1, " + number + ")", sample(n).edges(0, 1, number), BAD_NUMBER);
                due("n = " + n + ", edges(last, 0, " + number + ")", sample(n).edges(n - 1, 0, number), BAD_NUMBER);
            }
        }
    }

    private static void edgesTakesEveryRightNumber() {
        sentence = "Sets how many edges the pair u, v [...] has";
        for (int old = 0; old <= 3; old++) {
            for (int number = 0; number <= 3; number++) {
                TreeCounter x = new TreeCounter(2);
                x.edges(0, 1, old);
                x.edges(0, 1, number);
                due("from " + old + " to " + number + ", trees", x.trees(), number);
            }
        }
    }

    private static void edgesAnswersTheOldNumber() {
        sentence = "Else answers the old number";
        for (int old = 0; old <= 3; old++) {
            for (int number = 0; number <= 3; number++) {
                TreeCounter x = new TreeCounter(6);
                x.edges(4, 5, old);
                due("from " + old + " to " + number, x.edges(4, 5, number), old);
                due("after it from " + old + " to " + number, x.edges(4, 5, old), number);
            }
        }
    }

    private static void refusedEdgesChangeNothing() {
        sentence = "edges: nothing changes then";
        for (int n = 2; n <= 6; n++) {
            List<Named> refused = new ArrayList<>();
            for (int[] p : wrongPairs(n)) {
                refused.add(new Named("edges " + Arrays.toString(p), x -> x.edges(p[0], p[1], 0)));
                refused.add(new Named("edges, all wrong, " + Arrays.toString(p), x -> x.edges(p[0], p[1], 4)));
            }
            for (int number : notIn(0, 3)) {
                refused.add(new Named("edges(0, 1, " + number + ")", x -> x.edges(0, 1, number)));
            }
            dueNoChange(n, refused);
        }
    }

    private static void modeRefusesWrongPairs() {
        sentence = "mode: BAD_VERTEX as above";
        for (int n = 2; n <= 6; n++) {
            for (int[] p : wrongPairs(n)) {
                for (int mode = MAY; mode <= NEVER; mode++) {
                    due("n = " + n + ", mode " + Arrays.toString(p), sample(n).mode(p[0], p[1], mode), BAD_VERTEX);
                }
            }
        }
    }

    private static void modeRefusesWrongModes() {
        sentence = "mode not in 0 to 2: BAD_NUMBER";
        for (int n = 2; n <= 6; n++) {
            for (int mode : notIn(0, 2)) {
                due("n = " + n + ", mode(0, 1, " + mode + ")", sample(n).mode(0, 1, mode), BAD_NUMBER);
                due("n = " + n + ", mode(last, 0, " + mode + ")", sample(n).mode(n - 1, 0, mode), BAD_NUMBER);
            }
        }
    }

    private static void modeTakesEveryRightMode() {
        sentence = "Sets the mode of a pair";
        int[] treesByMode = {3, 2, 1};
        for (int old = MAY; old <= NEVER; old++) {
            for (int mode = MAY; mode <= NEVER; mode++) {
                TreeCounter x = full(3, 1);
                x.mode(0, 1, old);
                x.mode(0, 1, mode);
                due("from " + old + " to " + mode + ", trees", x.trees(), treesByMode[mode]);
            }
        }
    }

    private static void modeAnswersTheOldMode() {
        sentence = "Else answers the old mode";
        for (int old = MAY; old <= NEVER; old++) {
            for (int mode = MAY; mode <= NEVER; mode++) {
                TreeCounter x = new TreeCounter(6);
                x.mode(4, 5, old);
                due("from " + old + " to " + mode, x.mode(4, 5, mode), old);
                due("after it from " + old + " to " + mode, x.mode(4, 5, old), mode);
            }
        }
    }

    private static void refusedModesChangeNothing() {
        sentence = "mode: nothing changes then";
        for (int n = 2; n <= 6; n++) {
            List<Named> refused = new ArrayList<>();
            for (int[] p : wrongPairs(n)) {
                refused.add(new Named("mode MAY " + Arrays.toString(p), x -> x.mode(p[0], p[1], MAY)));
                refused.add(new Named("mode NEVER " + Arrays.toString(p), x -> x.mode(p[0], p[1], NEVER)));
                refused.add(new Named("mode, all wrong, " + Arrays.toString(p), x -> x.mode(p[0], p[1], 3)));
            }
            for (int mode : notIn(0, 2)) {
                refused.add(new Named("mode(0, 1, " + mode + ")", x -> x.mode(0, 1, mode)));
            }
            dueNoChange(n, refused);
        }
    }

    // Promises 4 to 7

    private static void treesOfTheEmptiestAndTheFullest() {
        sentence = "How many allowed spanning trees there are";
        int[] most = {3, 27, 432, 10125, 314928};
        for (int n = 2; n <= 6; n++) {
            due("n = " + n + ", empty", new TreeCounter(n).trees(), 0);
            due("n = " + n + ", full", full(n, 3).trees(), most[n - 2]);
        }
    }

    private static void usingOfPairsThatNoneOrAllUse() {
        sentence = "How many allowed spanning trees use the pair";
        for (int n = 2; n <= 6; n++) {
            TreeCounter x = full(n, 2);
            int all = x.trees();
            x.mode(0, n - 1, MUST);
            due("n = " + n + ", a MUST pair", x.using(0, n - 1), x.trees());
            x.mode(0, n - 1, NEVER);
            due("n = " + n + ", a NEVER pair", x.using(0, n - 1), 0);
            x.mode(0, n - 1, MAY);
            due("n = " + n + ", a MAY pair", x.using(0, n - 1), 2 * all / n);
            x.edges(0, n - 1, 0);
            due("n = " + n + ", a pair without edges", x.using(0, n - 1), 0);
            due("n = " + n + ", empty", new TreeCounter(n).using(0, 1), 0);
        }
    }

    private static void leafHasExactlyOneEdge() {
        sentence = "How many allowed spanning trees have exactly one edge at the vertex";
        for (int n = 2; n <= 6; n++) {
            TreeCounter x = star(n, 1);
            due("n = " + n + ", the middle of a star", x.leaf(0), n == 2 ? 1 : 0);
            due("n = " + n + ", the end of a star", x.leaf(n - 1), 1);
            due("n = " + n + ", empty", new TreeCounter(n).leaf(0), 0);
        }
        TreeCounter path = graph(3, new int[] {0, 1, 3}, new int[] {1, 2, 3});
        due("two edges at the vertex", path.leaf(1), 0);
        due("one of three parallel edges at the vertex", path.leaf(2), 9);
    }

    private static void leafRefusesWrongVertices() {
        sentence = "leaf: v not in 0 to n - 1: BAD_VERTEX";
        for (int n = 2; n <= 6; n++) {
            for (int bad : notIn(0, n - 1)) {
                due("n = " + n + ", leaf(" + bad + ")", sample(n).leaf(bad), BAD_VERTEX);
                due("n = " + n + ", leaf(" + bad + ") without trees", new TreeCounter(n).leaf(bad), BAD_VERTEX);
            }
        }
    }

    private static void degreesOfTheEmptiestAndTheFullest() {
        sentence = "The sum, over all allowed spanning trees, of the number of the tree's edges at the vertex";
        int[] most = {3, 36, 648, 16200, 524880};
        for (int n = 2; n <= 6; n++) {
            due("n = " + n + ", empty", new TreeCounter(n).degrees(n - 1), 0);
            due("n = " + n + ", full", full(n, 3).degrees(n - 1), most[n - 2]);
            due("n = " + n + ", the middle of a star", star(n, 1).degrees(0), n - 1);
        }
    }

    private static void degreesRefusesWrongVertices() {
        sentence = "degrees: v not in 0 to n - 1: BAD_VERTEX";
        for (int n = 2; n <= 6; n++) {
            for (int bad : notIn(0, n - 1)) {
                due("n = " + n + ", degrees(" + bad + ")", sample(n).degrees(bad), BAD_VERTEX);
                due("n = " + n + ", degrees(" + bad + ") without trees", new TreeCounter(n).degrees(bad), BAD_VERTEX);
            }
        }
    }

    // Promise 8

    private static void apartTakesTwoEdgesLessThanVertices() {
        sentence = "How many sets of n - 2 edges there are";
        due("n = 2, the empty set", new TreeCounter(2).apart(0, 1), 1);
        due("n = 2, the empty set beside edges", graph(2, new int[] {0, 1, 3}).apart(0, 1), 1);
        due("n = 3, no edges", new TreeCounter(3).apart(0, 1), 0);
        due("n = 3, one edge", graph(3, new int[] {0, 2, 1}).apart(0, 1), 1);
        for (int n = 3; n <= 6; n++) {
            TreeCounter x = star(n, 1);
            due("n = " + n + ", star", x.apart(0, n - 1), 1);
            x.edges(0, n - 1, 0);
            due("n = " + n + ", star without the last", x.apart(0, n - 1), 1);
            x.edges(0, 1, 0);
            due("n = " + n + ", n - 3 edges", x.apart(0, n - 1), 0);
        }
    }

    private static void apartUsesNoNeverPair() {
        sentence = "that use no pair of mode NEVER";
        TreeCounter two = graph(2, new int[] {0, 1, 3});
        two.mode(0, 1, NEVER);
        due("n = 2, NEVER", two.apart(0, 1), 1);
        TreeCounter three = full(3, 3);
        due("n = 3, all MAY", three.apart(0, 1), 6);
        three.mode(0, 2, NEVER);
        due("n = 3, one NEVER", three.apart(0, 1), 3);
        three.mode(1, 2, NEVER);
        due("n = 3, two NEVER", three.apart(0, 1), 0);
    }

    private static void apartUsesEveryMustPair() {
        sentence = "and every pair of mode MUST";
        TreeCounter two = graph(2, new int[] {0, 1, 3});
        two.mode(0, 1, MUST);
        due("n = 2, MUST", two.apart(0, 1), 0);
        TreeCounter three = full(3, 3);
        three.mode(0, 2, MUST);
        due("n = 3, one MUST", three.apart(0, 1), 3);
        due("n = 3, one MUST between the two", three.apart(0, 2), 0);
        three.mode(1, 2, MUST);
        due("n = 3, more MUST pairs than edges", three.apart(0, 1), 0);
        TreeCounter bare = graph(3, new int[] {0, 2, 1});
        bare.mode(1, 2, MUST);
        due("n = 3, MUST without edges", bare.apart(0, 1), 0);
    }

    private static void apartHasNoClosedWay() {
        sentence = "have no closed way";
        due("n = 4, two edges of one pair", graph(4, new int[] {0, 1, 2}).apart(2, 3), 0);
        due("n = 4, two edges of one pair, at its end", graph(4, new int[] {0, 1, 2}).apart(0, 3), 0);
        TreeCounter ring = graph(5, new int[] {0, 1, 1}, new int[] {1, 2, 1}, new int[] {0, 2, 1});
        for (int[] pair : pairs(5)) {
            due("n = 5, a ring of three, " + Arrays.toString(pair), ring.apart(pair[0], pair[1]), 0);
        }
        TreeCounter square = graph(6,
            new int[] {0, 1, 1}, new int[] {1, 2, 1}, new int[] {2, 3, 1}, new int[] {0, 3, 1});
        for (int[] pair : pairs(6)) {
            due("n = 6, a ring of four, " + Arrays.toString(pair), square.apart(pair[0], pair[1]), 0);
        }
    }

    private static void apartDoesNotConnectThem() {
        sentence = "and in which u and v are not connected";
        TreeCounter x = graph(4, new int[] {0, 1, 1}, new int[] {1, 2, 1});
        due("joined by one edge", x.apart(0, 1), 0);
        due("joined by two edges", x.apart(0, 2), 0);
        due("not joined", x.apart(0, 3), 1);
    }

    private static void apartHasAllVertices() {
        sentence = "two trees, one with u and one with v, that together have all vertices";
        TreeCounter x = graph(4, new int[] {0, 1, 1}, new int[] {1, 2, 1});
        x.edges(0, 3, 1);
        x.mode(0, 1, MUST);
        x.mode(1, 2, MUST);
        due("one tree is a single vertex", x.apart(2, 3), 1);
        due("the two are in one tree", x.apart(0, 2), 0);
        TreeCounter three = graph(5, new int[] {0, 1, 3}, new int[] {2, 3, 3});
        due("a third part", three.apart(0, 2), 0);
        three.edges(3, 4, 1);
        due("the third part joined", three.apart(0, 2), 9);
    }

    private static void apartRefusesWrongPairs() {
        sentence = "apart: BAD_VERTEX";
        for (int n = 2; n <= 6; n++) {
            for (int[] p : wrongPairs(n)) {
                due("n = " + n + ", empty, apart " + Arrays.toString(p),
                    new TreeCounter(n).apart(p[0], p[1]), BAD_VERTEX);
            }
        }
    }

    // Promises 9 and 10

    private static void idlePairsHaveAtLeastOneEdge() {
        sentence = "How many pairs with at least one edge";
        for (int n = 3; n <= 6; n++) {
            TreeCounter x = star(n, 1);
            due("n = " + n + ", a star", x.idle(), 0);
            x.mode(1, 2, NEVER);
            for (int edges = 0; edges <= 3; edges++) {
                x.edges(1, 2, edges);
                due("n = " + n + ", a NEVER pair with " + edges + " edges", x.idle(), edges == 0 ? 0 : 1);
            }
        }
    }

    private static void idlePairsAreUsedByNoAllowedTree() {
        sentence = "no allowed spanning tree uses";
        for (int n = 2; n <= 6; n++) {
            int all = n * (n - 1) / 2;
            TreeCounter x = full(n, 3);
            due("n = " + n + ", full", x.idle(), 0);
            for (int v = 1; v < n; v++) {
                x.mode(0, v, MUST);
            }
            due("n = " + n + ", all but the only tree", x.idle(), all - (n - 1));
            allModes(x, n, NEVER);
            due("n = " + n + ", no allowed tree", x.idle(), all);
            due("n = " + n + ", empty", new TreeCounter(n).idle(), 0);
        }
        due("no tree at all", graph(4, new int[] {0, 1, 3}, new int[] {2, 3, 1}).idle(), 2);
    }

    private static void neededPairsAreUsedByEveryTree() {
        sentence = "How many pairs every allowed spanning tree uses";
        for (int n = 2; n <= 6; n++) {
            due("n = " + n + ", a star", star(n, 3).needed(), n - 1);
            TreeCounter x = full(n, 3);
            due("n = " + n + ", full", x.needed(), n == 2 ? 1 : 0);
            x.mode(n - 2, n - 1, MUST);
            due("n = " + n + ", a MUST pair", x.needed(), 1);
        }
        TreeCounter ring = star(6, 1);
        ring.edges(1, 2, 1);
        due("a ring of three and three bridges", ring.needed(), 3);
    }

    private static void neededIs0WithoutTrees() {
        sentence = "0 if there are no allowed spanning trees";
        for (int n = 2; n <= 6; n++) {
            TreeCounter x = new TreeCounter(n);
            due("n = " + n + ", empty", x.needed(), 0);
            allModes(x, n, MUST);
            due("n = " + n + ", every pair MUST without edges", x.needed(), 0);
            TreeCounter y = full(n, 3);
            allModes(y, n, NEVER);
            due("n = " + n + ", every pair NEVER", y.needed(), 0);
            TreeCounter z = star(n, 1);
            z.edges(0, n - 1, 0);
            z.mode(0, 1, MUST);
            due("n = " + n + ", one edge too few", z.needed(), 0);
        }
    }

    // Promise 11

    private static void edgesTestsTheVertexFirst() {
        sentence = "edges: BAD_VERTEX is tested before BAD_NUMBER";
        for (int n = 2; n <= 6; n++) {
            for (int[] p : wrongPairs(n)) {
                for (int number : new int[] {LEAST, -1, 4, GREATEST}) {
                    due("n = " + n + ", edges " + Arrays.toString(p) + " " + number,
                        sample(n).edges(p[0], p[1], number), BAD_VERTEX);
                }
            }
        }
    }

    private static void modeTestsTheVertexFirst() {
        sentence = "mode: BAD_VERTEX is tested before BAD_NUMBER";
        for (int n = 2; n <= 6; n++) {
            for (int[] p : wrongPairs(n)) {
                for (int mode : new int[] {LEAST, -1, 3, GREATEST}) {
                    due("n = " + n + ", mode " + Arrays.toString(p) + " " + mode,
                        sample(n).mode(p[0], p[1], mode), BAD_VERTEX);
                }
            }
        }
    }
}
