/** Promises 6 to 14: each sentence that names a boundary case, each with a test of its own. */
public final class TreeEdgesTest {
    private static final int NONE = PlaneMaps.NONE;
    private static final int LEAST = Integer.MIN_VALUE;
    private static final int MOST = Integer.MAX_VALUE;

    private static final Check CHECK = new Check("edges of promises 6 to 14");

    public static void main(String[] args) {
        countDegrees();
        countAll();
        countNone();
        treesAll();
        treesNone();
        treeComes();
        treeFalse();
        rankOfSlots();
        rankNone();
        shapeEdges();
        shapeRoot();
        shapePoint();
        shapeNone();
        turnSigns();
        turnPoint();
        turnNone();
        backSign();
        backNone();
        backCannot();
        halveSame();
        halveNone();
        halveCannot();
        redoubleSame();
        redoubleNone();
        redoubleCannot();
        CHECK.end();
    }

    private static void due(String what, long got, long want) {
        CHECK.due(what, got, want);
    }

    private static void due(String what, boolean got, boolean want) {
        CHECK.due(what, got, want);
    }

    // ---- promises 6 and 7

    private static void countDegrees() {
        CHECK.sentence("Promise 6", "COUNT (k 0 .. 28)");
        PlaneMaps x = new PlaneMaps();
        due("first of all the last", x.count(14, 28), 2674440);
        due("14 and 1", x.count(14, 1), 157923007560L);
        due("14 and 0", x.count(14, 0), 0);
        due("0 and 0", x.count(0, 0), 1);
        due("0 and 28", x.count(0, 28), 0);
        due("1 and 28", x.count(1, 28), 0);
        due("13 and 26", x.count(13, 26), 742900);
        due("13 and 27", x.count(13, 27), 0);
    }

    private static void countAll() {
        CHECK.sentence("Promise 6", "k NONE: of all k together.");
        PlaneMaps x = new PlaneMaps();
        long[] want = {1, 2, 9, 54, 378, 2916, 24057, 208494, 1876446, 17399772, 165297834, 1602117468L, 15792300756L, 157923007560L,
            1598970451545L};
        for (int n = 14; n >= 0; n--) {
            due("all of " + n, x.count(n, NONE), want[n]);
            long sum = 0;
            for (int k = 0; k <= 28; k++) {
                sum += x.count(n, k);
            }
            due("all of " + n + " one by one", sum, want[n]);
        }
    }

    private static void countNone() {
        CHECK.sentence("Promise 6", "NONE if there is none such.");
        for (int n : Samples.never(-1, 15)) {
            for (int k : new int[] {0, 1, 28, NONE}) {
                CHECK.dueRefused("count " + n + " " + k, NONE, x -> x.count(n, k));
            }
        }
        for (int k : Samples.never(29)) {
            CHECK.dueRefused("count 0 " + k, NONE, x -> x.count(0, k));
            CHECK.dueRefused("count 14 " + k, NONE, x -> x.count(14, k));
        }
    }

    private static void treesAll() {
        CHECK.sentence("Promise 7", "How many TREES of n EDGES there are (0 .. 8).");
        PlaneMaps x = new PlaneMaps();
        long[] shapes = {1, 1, 2, 5, 14, 42, 132, 429, 1430};
        long labels = 1;
        for (int n = 0; n <= 8; n++) {
            due("trees " + n, x.trees(n), shapes[n] * labels);
            labels *= 3;
        }
    }

    private static void treesNone() {
        CHECK.sentence("Promise 7", "NONE if there are none such.");
        for (int n : Samples.never(-1, 9)) {
            CHECK.dueRefused("trees " + n, NONE, x -> x.trees(n));
        }
    }

    // ---- promises 8 to 10

    private static void treeComes() {
        CHECK.sentence("Promise 8", "The TREE of n EDGES with a number comes into a SLOT: true");
        for (int slot = 0; slot < 3; slot++) {
            PlaneMaps x = new PlaneMaps();
            for (int n = 8; n >= 0; n--) {
                long last = x.trees(n) - 1;
                due("the last of " + n, x.tree(slot, n, last), true);
                due("its number", x.rank(slot), last);
                due("the first of " + n, x.tree(slot, n, 0), true);
                due("its number", x.rank(slot), 0);
                due("its edges, and of no other", x.look(1), n);
            }
        }
    }

    private static void treeFalse() {
        CHECK.sentence("Promise 8", "false if there is none such.");
        for (int slot : Samples.NO_TREE_SLOT) {
            CHECK.dueRefused("tree into " + slot, 0, x -> x.tree(slot, 1, 0) ? 1 : 0);
        }
        for (int n : Samples.never(-1, 9)) {
            for (long number : new long[] {-1, 0, 1}) {
                CHECK.dueRefused("tree of " + n, 0, x -> x.tree(0, n, number) ? 1 : 0);
            }
        }
        for (int n = 0; n <= 8; n++) {
            long trees = new PlaneMaps().trees(n);
            long[] numbers = {-1, trees, trees + 1, LEAST, 1L << 32, (1L << 32) + trees - 1, Long.MIN_VALUE, Long.MIN_VALUE + 1,
                Long.MAX_VALUE};
            int edges = n;
            for (long number : numbers) {
                CHECK.dueRefused("tree " + number + " of " + n, 0, x -> x.tree(1, edges, number) ? 1 : 0);
            }
        }
    }

    private static void rankOfSlots() {
        CHECK.sentence("Promise 9", "The number of the TREE in a SLOT.");
        PlaneMaps x = new PlaneMaps();
        due("of a tree without edges", x.rank(2), 0);
        for (int n = 0; n <= 8; n++) {
            long trees = x.trees(n);
            for (long number : new long[] {0, trees / 7, trees / 2, trees - 1}) {
                x.tree(1, n, number);
                due("rank", x.rank(1), number);
            }
        }
        due("the last one's point", x.turn(1, 0, 0), 1);
        due("back from it", x.back(0, 1, 0), 0);
        due("of a tree that came by back()", x.rank(0), 9382229);
    }

    private static void rankNone() {
        CHECK.sentence("Promise 9", "NONE if there is none such.");
        for (int slot : Samples.NO_TREE_SLOT) {
            CHECK.dueRefused("rank of " + slot, NONE, x -> x.rank(slot));
        }
    }

    private static void shapeEdges() {
        CHECK.sentence("Promise 10", "EDGES (what 0), step i of the SHAPE (1), LABEL of VERTEX i (2)");
        PlaneMaps x = new PlaneMaps();
        x.tree(2, 8, 9382229);
        for (int i : new int[] {0, 1, NONE, LEAST, MOST}) {
            due("edges, whatever i is", x.shape(2, 0, i), 8);
        }
        due("first step", x.shape(2, 1, 0), 1);
        due("last step", x.shape(2, 1, 15), 0);
        due("first label", x.shape(2, 2, 0), 0);
        due("last label", x.shape(2, 2, 8), 8);
        x.tree(2, 1, 0);
        due("a label below 0", x.shape(2, 2, 1), -1);
        due("last step of one edge", x.shape(2, 1, 1), 0);
    }

    private static void shapeRoot() {
        CHECK.sentence("Promise 10", "its parent (3; NONE of the root)");
        PlaneMaps x = new PlaneMaps();
        due("root alone", x.shape(0, 3, 0), NONE);
        x.tree(0, 8, 9382229);
        for (int v = 0; v <= 8; v++) {
            due("one above the other", x.shape(0, 3, v), v - 1);
        }
        x.tree(0, 8, 0);
        for (int v = 1; v <= 8; v++) {
            due("beside each other", x.shape(0, 3, v), 0);
        }
    }

    private static void shapePoint() {
        CHECK.sentence("Promise 10", "HEIR of CORNER i (4; NONE: the POINT), the VERTEX at CORNER i (5).");
        PlaneMaps x = new PlaneMaps();
        due("one corner", x.shape(0, 4, 0), NONE);
        due("at the root", x.shape(0, 5, 0), 0);
        x.tree(0, 8, 9382229);
        due("first corner's heir", x.shape(0, 4, 0), NONE);
        due("last corner's heir is the first one", x.shape(0, 4, 15), 0);
        due("first corner's vertex", x.shape(0, 5, 0), 0);
        due("last corner's vertex", x.shape(0, 5, 15), 1);
    }

    private static void shapeNone() {
        CHECK.sentence("Promise 10", "-100 if there is none such, or another what.");
        for (int slot : Samples.NO_TREE_SLOT) {
            for (int what = 0; what <= 5; what++) {
                int sort = what;
                CHECK.dueRefused("shape of slot " + slot, -100, x -> x.shape(slot, sort, 0));
            }
        }
        for (int what : Samples.never(-1, 6)) {
            CHECK.dueRefused("shape " + what, -100, x -> x.shape(0, what, 0));
        }
        // trees of 3 and 0 edges: steps, labels, parents, heirs, corners
        int[][] lengths = {{0, 6, 4, 4, 6, 6}, {0, 0, 1, 1, 1, 1}};
        for (int k = 0; k <= 1; k++) {
            int slot = 2 * k;
            for (int what = 1; what <= 5; what++) {
                int sort = what;
                for (int i : Samples.never(-1, lengths[k][what])) {
                    CHECK.dueRefused("shape " + what + " " + i, -100, x -> x.shape(slot, sort, i));
                }
            }
        }
        PlaneMaps x = new PlaneMaps();
        x.tree(0, 8, 0);
        int[] most = {0, 16, 9, 9, 16, 16};
        for (int what = 1; what <= 5; what++) {
            due("beyond a tree of 8, " + what, x.shape(0, what, most[what]), -100);
        }
    }

    // ---- promises 11 to 14

    private static void turnSigns() {
        CHECK.sentence("Promise 11", "The TREE in a SLOT, TURNED, comes into a SLOT of MAPS (SIGN 0, 1)");
        for (int tree = 0; tree < 3; tree++) {
            for (int map = 0; map < 4; map++) {
                for (int sign = 0; sign <= 1; sign++) {
                    PlaneMaps x = new PlaneMaps();
                    x.tree(tree, 3, 46);
                    due("point", x.turn(tree, map, sign), 3);
                    CHECK.dueText("turned", x, map, Samples.TURNED_46);
                    due("root", x.of(map, 3), sign);
                    due("the tree stays", x.rank(tree), 46);
                    due("edges of all maps", x.look(2), 6);
                }
            }
        }
    }

    private static void turnPoint() {
        CHECK.sentence("Promise 11", "the number of the VERTEX that is the POINT.");
        PlaneMaps x = new PlaneMaps();
        due("without edges", x.turn(0, 0, 0), 1);
        x.tree(0, 8, 9382229);
        due("the root's heir", x.turn(0, 0, 0), 1);
        x.tree(0, 8, 9382229 - 6560);
        due("the last vertex", x.turn(0, 0, 0), 9);
        due("it has the dart of corner 8 alone", x.dart(0, 17, 2), 9);
        due("its degree", x.degree(0, 0, 9), 1);
    }

    private static void turnNone() {
        CHECK.sentence("Promise 11", "NONE if there is none such.");
        for (int slot : Samples.NO_TREE_SLOT) {
            CHECK.dueRefused("turn from " + slot, NONE, x -> x.turn(slot, 1, 0));
        }
        for (int slot : Samples.NO_MAP_SLOT) {
            CHECK.dueRefused("turn into " + slot, NONE, x -> x.turn(0, slot, 0));
        }
        for (int sign : Samples.never(-1, 2)) {
            CHECK.dueRefused("turn with sign " + sign, NONE, x -> x.turn(0, 1, sign));
        }
    }

    private static void backSign() {
        CHECK.sentence("Promise 12", "BACK from the MAP in a SLOT and a VERTEX; the TREE comes into a SLOT: SIGN.");
        for (int map = 0; map < 4; map++) {
            for (int tree = 0; tree < 3; tree++) {
                for (int sign = 0; sign <= 1; sign++) {
                    PlaneMaps x = new PlaneMaps();
                    x.tree(0, 8, 4711331);
                    int point = x.turn(0, map, sign);
                    x.tree(0, 1, 0);
                    due("sign", x.back(map, point, tree), sign);
                    due("the tree", x.rank(tree), 4711331);
                    due("its edges", x.shape(tree, 0, 0), 8);
                    due("the map stays", x.of(map, 0), 16);
                    due("and its root", x.of(map, 3), sign);
                }
            }
        }
        PlaneMaps y = CHECK.with(Samples.EDGE);
        y.tree(1, 8, 5);
        due("one edge", y.back(0, 1, 1), 0);
        due("a tree without edges", y.shape(1, 0, 0), 0);
        due("its label", y.shape(1, 2, 0), 0);
        due("its heir", y.shape(1, 4, 0), NONE);
    }

    private static void backNone() {
        CHECK.sentence("Promise 12", "NONE if there is none such");
        for (int slot : Samples.NO_MAP_SLOT) {
            CHECK.dueRefused("back from " + slot, NONE, x -> x.back(slot, 0, 1));
        }
        for (int slot : Samples.NO_TREE_SLOT) {
            CHECK.dueRefused("back into " + slot, NONE, x -> x.back(2, 0, slot));
        }
        for (int vertex : Samples.never(-1, 5)) {
            CHECK.dueRefused("back from vertex " + vertex, NONE, x -> x.back(2, vertex, 1));
        }
        PlaneMaps x = CHECK.with(Samples.EDGE);
        due("vertex 2 of one edge", x.back(0, 2, 0), NONE);
        due("vertex 1 of one edge", x.back(0, 1, 0), 0);
    }

    private static void backCannot() {
        CHECK.sentence("Promise 12", "or it can't be.");
        CHECK.dueRefused("back from a loop", NONE, x -> x.back(0, 0, 1));
        CHECK.dueRefused("back from a triangle", NONE, x -> x.back(1, 0, 1));
        CHECK.dueRefused("back without edges", NONE, x -> x.back(3, 0, 1));
    }

    private static void halveSame() {
        CHECK.sentence("Promise 13", "HALVED, into a SLOT of MAPS (may be the same): how many EDGES.");
        for (int map = 0; map < 4; map++) {
            for (int into = 0; into < 4; into++) {
                PlaneMaps x = new PlaneMaps();
                Check.read(x, Samples.CYCLE_4, map);
                due("edges", x.halve(map, into), 2);
                CHECK.dueText("halved", x, into, "(0 3)(1 2)");
                due("the one it came of stays", x.of(map, 0), map == into ? 2 : 4);
            }
        }
        PlaneMaps y = new PlaneMaps();
        y.tree(0, 8, 77);
        y.turn(0, 0, 0);
        due("sixteen edges", y.halve(0, 0), 8);
    }

    private static void halveNone() {
        CHECK.sentence("Promise 13", "NONE if there is none such");
        for (int slot : Samples.NO_MAP_SLOT) {
            CHECK.dueRefused("halve of " + slot, NONE, x -> x.halve(slot, 1));
            CHECK.dueRefused("halve into " + slot, NONE, x -> x.halve(2, slot));
        }
    }

    private static void halveCannot() {
        CHECK.sentence("Promise 13", "or it can't be.");
        CHECK.dueRefused("halve a loop", NONE, x -> x.halve(0, 2));
        CHECK.dueRefused("halve a triangle", NONE, x -> x.halve(1, 1));
        CHECK.dueRefused("halve without edges", NONE, x -> x.halve(3, 1));
    }

    private static void redoubleSame() {
        CHECK.sentence("Promise 14", "DOUBLED likewise.");
        for (int map = 0; map < 4; map++) {
            for (int into = 0; into < 4; into++) {
                PlaneMaps x = new PlaneMaps();
                Check.read(x, Samples.cycle(3), map);
                due("edges", x.redouble(map, into), 6);
                CHECK.dueText("doubled", x, into, "(0 10)(1 9 5)(2 4)(3 7 11)(6 8)");
                due("its root", x.of(into, 3), 10);
                due("the one it came of stays", x.of(map, 0), map == into ? 6 : 3);
            }
        }
        PlaneMaps y = new PlaneMaps();
        int[] want = {1, 2, 4, 8, 16, NONE};
        for (int edges : want) {
            due("again and again", y.redouble(2, 2), edges);
        }
        due("then it stays", y.of(2, 0), 16);
    }

    private static void redoubleNone() {
        CHECK.sentence("Promise 14, likewise", "NONE if there is none such");
        for (int slot : Samples.NO_MAP_SLOT) {
            CHECK.dueRefused("redouble of " + slot, NONE, x -> x.redouble(slot, 1));
            CHECK.dueRefused("redouble into " + slot, NONE, x -> x.redouble(2, slot));
        }
    }

    private static void redoubleCannot() {
        CHECK.sentence("Promise 14, likewise", "or it can't be.");
        for (String text : new String[] {Samples.path(9), Samples.loops(9), Samples.pair(16), Samples.star(16)}) {
            PlaneMaps x = CHECK.with(text);
            Check.read(x, Samples.LOOP, 1);
            due("more than 8 edges", x.redouble(0, 1), NONE);
            CHECK.dueText("the slot stays", x, 1, Samples.LOOP);
            due("in the same slot", x.redouble(0, 0), NONE);
            CHECK.dueText("it stays", x, 0, text);
        }
        due("8 edges can be", CHECK.with(Samples.loops(8)).redouble(0, 0), 16);
    }
}
