/** What ==== 2. says of TREES, TURNED, BACK, HALVED and DOUBLED, sentence by sentence, worked out by hand. */
public final class TreeTermsTest {
    private static final int NONE = PlaneMaps.NONE;
    private static final int NO_SHAPE = -100;
    private static final String TREES = "TREES";
    private static final String TURNED = "TURNED";
    private static final String BACK = "BACK";
    private static final String HALVED = "HALVED";
    private static final String DOUBLED = "DOUBLED";
    private static final String[] FOUR_SIDES_OR_EDGE = {Samples.EDGE, Samples.PATH, Samples.CYCLE_4, Samples.TURNED_46};
    private static final String[] OTHERS = {"", Samples.LOOP, Samples.TRIANGLE, Samples.loops(2), Samples.pair(2), Samples.star(4),
        Samples.cycle(3), Samples.cycle(16), "(0 7 8)(1 2)(3 4)(5 6)(9)"};

    private static final Check CHECK = new Check("terms of trees");

    public static void main(String[] args) {
        edges();
        steps();
        vertices();
        labels();
        numbersOfShapes();
        numbersOfLabels();
        corners();
        heirs();
        turnedVertices();
        turnedEdges();
        turnedRounds();
        turnedPoint();
        turnedRoot();
        turnedFaces();
        backFrom();
        backDistances();
        backFaces();
        backRoot();
        backChildren();
        backLabels();
        halvedFrom();
        halvedVertices();
        halvedDarts();
        halvedRoot();
        halvedEdge();
        doubledEdges();
        doubledAlike();
        doubledRounds();
        doubledRoot();
        doubledBare();
        CHECK.end();
    }

    private static void due(String what, long got, long want) {
        CHECK.due(what, got, want);
    }

    private static PlaneMaps tree(int n, long number) {
        PlaneMaps x = new PlaneMaps();
        CHECK.due("there is tree " + number + " of " + n, x.tree(0, n, number), true);
        return x;
    }

    /** All that shape() tells of one sort, up to where there is none. */
    private static String row(PlaneMaps x, int what) {
        StringBuilder text = new StringBuilder();
        for (int i = 0; i < 20 && x.shape(0, what, i) != NO_SHAPE; i++) {
            text.append(i == 0 ? "" : " ").append(x.shape(0, what, i));
        }
        return text.toString();
    }

    private static void edges() {
        CHECK.sentence(TREES, "A TREE has n EDGES (0 .. 8)");
        for (int n = 0; n <= 8; n++) {
            due("edges", tree(n, 0).shape(0, 0, 0), n);
        }
        CHECK.due("nine are too many", new PlaneMaps().tree(0, 9, 0), false);
        CHECK.due("less than none", new PlaneMaps().tree(0, -1, 0), false);
    }

    private static void steps() {
        CHECK.sentence(TREES, "a SHAPE of 2 n steps (up 1, down 0: from its root up to a child, from the left, down again behind all of it)");
        CHECK.due("no step", row(tree(0, 0), 1), "");
        CHECK.due("one edge", row(tree(1, 0), 1), "1 0");
        CHECK.due("two children", row(tree(2, 8), 1), "1 0 1 0");
        CHECK.due("a child's child", row(tree(2, 9), 1), "1 1 0 0");
        CHECK.due("first of eight", row(tree(8, 0), 1), "1 0 1 0 1 0 1 0 1 0 1 0 1 0 1 0");
        CHECK.due("last of eight", row(tree(8, 9382229), 1), "1 1 1 1 1 1 1 1 0 0 0 0 0 0 0 0");
    }

    private static void vertices() {
        CHECK.sentence(TREES, "VERTICES 0 .. n in the order in which they are come to first");
        CHECK.due("the root alone", row(tree(0, 0), 3), "-1");
        CHECK.due("101100", row(tree(3, 27), 3), "-1 0 0 2");
        CHECK.due("110010", row(tree(3, 54), 3), "-1 0 1 0");
        CHECK.due("110100", row(tree(3, 81), 3), "-1 0 1 1");
        CHECK.due("111000", row(tree(3, 108), 3), "-1 0 1 2");
        CHECK.due("at the corners of 110100", row(tree(3, 81), 5), "0 1 2 1 3 1");
    }

    private static void labels() {
        CHECK.sentence(TREES, "LABELS: 0 of the root, of each other one that of its parent less 1, as much, or 1 more");
        CHECK.due("the root alone", row(tree(0, 0), 2), "0");
        CHECK.due("all more, up to 8", row(tree(8, 9382229), 2), "0 1 2 3 4 5 6 7 8");
        CHECK.due("all less, down to -8", row(tree(8, 9382229 - 6560), 2), "0 -1 -2 -3 -4 -5 -6 -7 -8");
        CHECK.due("all as much", row(tree(8, 3280), 2), "0 0 0 0 0 0 0 0 0");
        CHECK.due("of the parent, not of the one ahead", row(tree(3, 54 + 2 * 9 + 2 * 3 + 0), 2), "0 1 2 -1");
    }

    private static void numbersOfShapes() {
        CHECK.sentence(TREES, "TREES of n EDGES are numbered from 0 on: by SHAPES as numbers of two (the first step is worth most), the"
                + " lesser ahead");
        String[] three = {"1 0 1 0 1 0", "1 0 1 1 0 0", "1 1 0 0 1 0", "1 1 0 1 0 0", "1 1 1 0 0 0"};
        for (int i = 0; i < three.length; i++) {
            CHECK.due("first tree of shape " + i, row(tree(3, 27 * i), 1), three[i]);
            CHECK.due("last tree of shape " + i, row(tree(3, 27 * i + 26), 1), three[i]);
        }
        CHECK.due("last of the first shape of eight", row(tree(8, 6560), 1), "1 0 1 0 1 0 1 0 1 0 1 0 1 0 1 0");
        CHECK.due("first of the second shape of eight", row(tree(8, 6561), 1), "1 0 1 0 1 0 1 0 1 0 1 0 1 1 0 0");
        CHECK.due("last shape but one of eight", row(tree(8, 9382229 - 6561), 1), "1 1 1 1 1 1 1 0 1 0 0 0 0 0 0 0");
    }

    private static void numbersOfLabels() {
        CHECK.sentence(TREES, "of one SHAPE by VERTICES 1, 2, ..: less, as much, more (the first one counts most)");
        for (int number = 0; number < 9; number++) {
            CHECK.due("labels of " + number, row(tree(2, number), 2), "0 " + (number / 3 - 1) + " " + (number % 3 - 1));
        }
        CHECK.due("the last vertex counts least", row(tree(8, 1), 2), "0 -1 -1 -1 -1 -1 -1 -1 0");
        CHECK.due("vertex 1 counts most", row(tree(8, 2187), 2), "0 0 -1 -1 -1 -1 -1 -1 -1");
    }

    private static void corners() {
        CHECK.sentence(TREES, "CORNERS of a TREE: where one is ahead of each step, 0 .. 2 n less 1, going round (n 0: one CORNER, 0)");
        CHECK.due("without edges", row(tree(0, 0), 5), "0");
        CHECK.due("one edge", row(tree(1, 0), 5), "0 1");
        CHECK.due("two children", row(tree(2, 0), 5), "0 1 0 2");
        CHECK.due("sixteen", row(tree(8, 9382229), 5), "0 1 2 3 4 5 6 7 8 7 6 5 4 3 2 1");
    }

    private static void heirs() {
        CHECK.sentence(TREES, "HEIR of a CORNER: the first behind it, round, at which the LABEL is 1 less than its own; without one the POINT");
        CHECK.due("without edges", row(tree(0, 0), 4), "-1");
        CHECK.due("less: right behind", row(tree(1, 0), 4), "1 -1");
        CHECK.due("as much: none", row(tree(1, 1), 4), "-1 -1");
        CHECK.due("more: round to the first corner", row(tree(1, 2), 4), "-1 0");
        CHECK.due("the first of two", row(tree(2, 0), 4), "1 -1 3 -1");
        CHECK.due("labels 0 -1 -2 -1: round beyond the own vertex", row(tree(2, 9), 4), "1 2 -1 2");
        CHECK.due("labels 0 to 8 and back", row(tree(8, 9382229), 4), "-1 0 15 14 13 12 11 10 9 10 11 12 13 14 15 0");
    }

    private static void turnedVertices() {
        CHECK.sentence(TURNED, "TURNED into a MAP: VERTICES of the TREE and the POINT");
        for (int n = 0; n <= 8; n++) {
            PlaneMaps x = tree(n, new PlaneMaps().trees(n) / 2);
            int point = x.turn(0, 0, 0);
            due("vertices", x.of(0, 1), n + 2);
            due("the point is one of them", point >= 0 && point < n + 2 ? 1 : 0, 1);
        }
    }

    private static void turnedEdges() {
        CHECK.sentence(TURNED, "an EDGE for each CORNER c, DARTS 2 c (from its VERTEX) and 2 c and 1 (from that of its HEIR, or the POINT)");
        PlaneMaps x = tree(8, 9382229);
        int point = x.turn(0, 0, 0);
        due("edges", x.of(0, 0), 16);
        due("dart of the last corner begins where that of corner 1 does", x.dart(0, 30, 2), x.dart(0, 2, 2));
        due("the last corner's heir is corner 0", x.dart(0, 31, 2), x.dart(0, 0, 2));
        due("corner 0 has the point", x.dart(0, 1, 2), point);
        due("corner 9 has corner 10", x.dart(0, 19, 2), x.dart(0, 20, 2));
    }

    private static void turnedRounds() {
        CHECK.sentence(TURNED, "Clockwise round a VERTEX: CORNER by CORNER, in their order: first DARTS of those whose HEIR it is, the"
                + " nearest ahead of it (going back, round) first; then its own one");
        PlaneMaps x = tree(2, 9);
        x.turn(0, 0, 0);
        CHECK.dueText("corner 2: ahead of it 1, and round 3", x, 0, "(0)(1 2 6)(3 7 4)(5)");
        PlaneMaps y = tree(2, 2);
        y.turn(0, 0, 0);
        CHECK.dueText("corner 1: ahead of it 0, and round 2", y, 0, "(0 4 7)(1 5 2)(3)(6)");
        PlaneMaps z = tree(8, 9382229);
        z.turn(0, 0, 0);
        due("corner 0: round 15 is the nearest", z.dart(0, 0, 0), 31);
        due("then corner 1", z.dart(0, 31, 0), 3);
        due("then its own", z.dart(0, 3, 0), 0);
    }

    private static void turnedPoint() {
        CHECK.sentence(TURNED, "Round the POINT: DARTS of its CORNERS by falling numbers");
        PlaneMaps x = tree(2, 4);
        due("all corners have it", x.turn(0, 0, 0), 1);
        CHECK.dueText("all labels as much", x, 0, "(0 4)(1 7 5 3)(2)(6)");
        PlaneMaps y = tree(8, 3280);
        due("sixteen corners have it", y.turn(0, 0, 0), 1);
        due("degree of the point", y.degree(0, 0, 1), 16);
        due("falling", y.dart(0, 31, 0), 29);
        due("round", y.dart(0, 1, 0), 31);
    }

    private static void turnedRoot() {
        CHECK.sentence(TURNED, "ROOT: 0, or with SIGN 1: 1.");
        PlaneMaps x = tree(8, 5);
        for (int sign = 0; sign <= 1; sign++) {
            x.turn(0, sign, sign);
            due("root", x.of(sign, 3), sign);
        }
    }

    private static void turnedFaces() {
        CHECK.sentence(TURNED, "(It is PLANE, all FACES have DEGREE 4; a TREE without EDGES: one EDGE, one FACE of DEGREE 2.)");
        for (int n = 1; n <= 8; n++) {
            long trees = new PlaneMaps().trees(n);
            for (long number : new long[] {0, trees / 3, trees / 2, trees - 1}) {
                PlaneMaps x = tree(n, number);
                x.turn(0, 0, 0);
                due("faces of " + n, x.of(0, 2), n);
                due("plane", x.of(0, 1) + x.of(0, 2), x.of(0, 0) + 2);
                due("of degree 4", x.of(0, 6), 1);
            }
        }
        PlaneMaps x = tree(0, 0);
        due("point of a tree without edges", x.turn(0, 0, 0), 1);
        CHECK.dueText("one edge", x, 0, Samples.EDGE);
        due("one face", x.of(0, 2), 1);
        due("of degree 2", x.degree(0, 1, 0), 2);
    }

    private static void backFrom() {
        CHECK.sentence(BACK, "a PLANE MAP of which all FACES have DEGREE 4 (or that one of one EDGE), and a VERTEX, the POINT");
        for (String text : FOUR_SIDES_OR_EDGE) {
            PlaneMaps x = CHECK.with(text);
            for (int v = 0; v < x.of(0, 1); v++) {
                due("from " + v + " of " + text, x.back(0, v, 0) == NONE ? 1 : 0, 0);
                due("edges of the tree", x.shape(0, 0, 0), x.of(0, 0) / 2);
            }
        }
        for (String text : OTHERS) {
            due("it can't be from " + text, CHECK.with(text).back(0, 0, 0), NONE);
        }
    }

    private static void backDistances() {
        CHECK.sentence(BACK, "DISTANCE of each VERTEX from it, along EDGES");
        PlaneMaps x = tree(8, 9382229);
        int point = x.turn(0, 0, 0);
        for (int c = 0; c < 16; c++) {
            due("label and distance at corner " + c, x.distance(0, point, x.dart(0, 2 * c, 2)), 1 + Math.min(c, 16 - c));
        }
        due("the point itself", x.distance(0, point, point), 0);
    }

    // round the cycle's faces 0 2 4 6 and 1 7 5 3 distances are 0 1 2 1, whatever the point is
    private static void backFaces() {
        CHECK.sentence(BACK, "A FACE has two DARTS that go to a VERTEX farther off than the one at which they begin: the VERTICES to which"
                + " they go are joined by an EDGE of the TREE (at each of both it stands, clockwise, right behind the other DART of the"
                + " EDGE of that DART, ahead of NEXT of it)");
        PlaneMaps x = CHECK.with(Samples.CYCLE_4);
        int[][] want = {{1, 15}, {0, 15}, {0, 0}, {1, 0}};
        for (int v = 0; v < 4; v++) {
            due("sign from " + v, x.back(0, v, 0), want[v][0]);
            due("tree from " + v, x.rank(0), want[v][1]);
        }
        PlaneMaps y = CHECK.with(Samples.PATH);
        y.back(0, 1, 0);
        due("both as far off", y.rank(0), 1);
    }

    private static void backRoot() {
        CHECK.sentence(BACK, "Its root: the VERTEX of the ROOT, or of the other DART of its EDGE, that is farther off; SIGN 1, if it is the"
                + " other one's");
        PlaneMaps x = CHECK.with(Samples.PATH);
        int[][] signs = {{1, 0, 0}, {0, 1, 1}, {1, 1, 0}, {0, 0, 1}};
        int[][] ranks = {{2, 1, 0}, {2, 1, 0}, {0, 1, 2}, {0, 1, 2}};
        for (int root = 0; root < 4; root++) {
            x.change(0, 4, root, 0);
            for (int v = 0; v < 3; v++) {
                due("sign with root " + root + " from " + v, x.back(0, v, 0), signs[root][v]);
                due("tree with root " + root + " from " + v, x.rank(0), ranks[root][v]);
            }
        }
        PlaneMaps y = CHECK.with(Samples.EDGE);
        due("one edge, the point is its other end", y.back(0, 1, 0), 0);
        due("one edge, the point is its root's", y.back(0, 0, 0), 1);
    }

    // "(0 4 7)(1 5 2)(3)(6)" is tree 2 of two edges turned: labels 0 -1 1, the point is vertex 2
    private static void backChildren() {
        CHECK.sentence(BACK, "its children clockwise from there on (behind that DART); of another VERTEX clockwise behind the EDGE to its"
                + " parent");
        PlaneMaps x = CHECK.with("(0 4 7)(1 5 2)(3)(6)");
        int[][] want = {{0, 0, 2}, {4, 0, 6}, {7, 1, 9}, {6, 0, 9}};
        for (int[] row : want) {
            x.change(0, 4, row[0], 1);
            due("sign from root " + row[0], x.back(1, 2, 0), row[1]);
            due("tree from root " + row[0], x.rank(0), row[2]);
        }
    }

    private static void backLabels() {
        CHECK.sentence(BACK, "LABEL: DISTANCE less that of the root");
        PlaneMaps x = tree(8, 9382229);
        int point = x.turn(0, 0, 0);
        x.back(0, point, 0);
        CHECK.due("farther and farther", row(x, 2), "0 1 2 3 4 5 6 7 8");
        PlaneMaps y = tree(8, 9382229 - 6560);
        point = y.turn(0, 0, 1);
        y.back(0, point, 0);
        CHECK.due("nearer and nearer", row(y, 2), "0 -1 -2 -3 -4 -5 -6 -7 -8");
    }

    private static void halvedFrom() {
        CHECK.sentence(HALVED, "HALVED: of such a MAP");
        for (String text : FOUR_SIDES_OR_EDGE) {
            PlaneMaps x = CHECK.with(text);
            due("half the edges of " + text, x.halve(0, 1), x.of(0, 0) / 2);
        }
        for (String text : OTHERS) {
            due("it can't be of " + text, CHECK.with(text).halve(0, 1), NONE);
        }
    }

    private static void halvedVertices() {
        CHECK.sentence(HALVED, "VERTICES an even DISTANCE from that of the ROOT; in each FACE an EDGE that joins both its CORNERS at these");
        PlaneMaps x = CHECK.with(Samples.PATH);
        due("both ends of a path", x.halve(0, 1), 1);
        CHECK.dueText("are joined", x, 1, Samples.EDGE);
        x.change(0, 4, 1, 0);
        due("the middle of a path", x.halve(0, 1), 1);
        CHECK.dueText("is joined with itself", x, 1, Samples.LOOP);
        PlaneMaps y = tree(8, 3280);
        y.turn(0, 0, 0);
        due("eight faces", y.halve(0, 1), 8);
        due("all but the point", y.of(1, 1), 9);
        y.turn(0, 0, 1);
        due("eight faces", y.halve(0, 1), 8);
        due("the point alone", y.of(1, 1), 1);
    }

    private static void halvedDarts() {
        CHECK.sentence(HALVED, "(clockwise they stand where the FACE is, as by BACK; EDGES are numbered by FACES; of a FACE its DART d is"
                + " the one at the VERTEX at which the least DART of the FACE that begins at one of these begins, the other one at the other)");
        PlaneMaps x = CHECK.with(Samples.CYCLE_4);
        x.halve(0, 1);
        CHECK.dueText("0 4, and 3 ahead of 7", x, 1, "(0 3)(1 2)");
        x.change(0, 4, 1, 0);
        x.halve(0, 1);
        CHECK.dueText("2 6 and 1 5", x, 1, "(0 2)(1 3)");
    }

    private static void halvedRoot() {
        CHECK.sentence(HALVED, "ROOT: the DART in the FACE of the ROOT that begins where the ROOT begins, at that CORNER (ahead of the"
                + " ROOT, clockwise)");
        PlaneMaps x = CHECK.with(Samples.CYCLE_4);
        int[] want = {0, 2, 0, 2, 1, 3, 1, 3};
        for (int root = 0; root < 8; root++) {
            x.change(0, 4, root, 1);
            x.halve(1, 1);
            due("root from " + root, x.of(1, 3), want[root]);
        }
        PlaneMaps y = CHECK.with(Samples.PATH);
        for (int root = 1; root <= 2; root++) {
            y.change(0, 4, root, 1);
            y.halve(1, 1);
            due("both corners at one vertex, root from " + root, y.of(1, 3), root - 1);
        }
    }

    private static void halvedEdge() {
        CHECK.sentence(HALVED, "(Of the MAP of one EDGE: one VERTEX without EDGES.)");
        PlaneMaps x = CHECK.with(Samples.EDGE);
        for (int root = 0; root <= 1; root++) {
            x.change(0, 4, root, 1);
            due("edges", x.halve(1, 1), 0);
            CHECK.dueBare("halved", x, 1);
        }
        PlaneMaps y = Samples.used();
        Check.read(y, Samples.EDGE, 2);
        due("edges", y.halve(2, 3), 0);
        CHECK.dueBare("halved where much was", y, 3);
    }

    private static void doubledEdges() {
        CHECK.sentence(DOUBLED, "of a PLANE MAP of at most 8 EDGES");
        for (int edges = 1; edges <= 16; edges++) {
            PlaneMaps x = CHECK.with(Samples.path(edges));
            due("a path of " + edges, x.redouble(0, 0), edges <= 8 ? 2 * edges : NONE);
        }
    }

    private static void doubledAlike() {
        CHECK.sentence(DOUBLED, "the MAP by which HALVED is ALIKE to it");
        String[] texts = {"", Samples.EDGE, Samples.LOOP, Samples.TRIANGLE, Samples.path(8), Samples.cycle(8), Samples.star(8),
            Samples.loops(8), Samples.pair(8)};
        for (String text : texts) {
            PlaneMaps x = CHECK.with(text);
            for (int root = 0; root < Math.max(1, 2 * x.of(0, 0)); root++) {
                x.change(0, 4, root, 0);
                x.redouble(0, 1);
                due("halved again", x.halve(1, 1), x.of(0, 0));
                due("alike, root " + root + " of " + text, x.alike(0, 1, 0), 1);
            }
        }
    }

    private static void doubledRounds() {
        CHECK.sentence(DOUBLED, "VERTICES and FACES of it; an EDGE for each DART d, DARTS 2 d (from its VERTEX) and 2 d and 1 (from its"
                + " FACE, the one to its left); round a VERTEX clockwise DARTS 2 d by NEXT of d; round a FACE clockwise DARTS 2 d and 1"
                + " in the order against FOLLOW");
        String[][] pairs = {
            {Samples.EDGE, "(0)(1 3)(2)"},
            {Samples.LOOP, "(0 2)(1)(3)"},
            {Samples.cycle(3), "(0 10)(1 9 5)(2 4)(3 7 11)(6 8)"},
        };
        for (String[] pair : pairs) {
            PlaneMaps x = CHECK.with(pair[0]);
            x.redouble(0, 1);
            CHECK.dueText("doubled", x, 1, pair[1]);
        }
    }

    private static void doubledRoot() {
        CHECK.sentence(DOUBLED, "ROOT: 2 times NEXT of ROOT");
        PlaneMaps x = CHECK.with(Samples.TRIANGLE);
        int[] next = {5, 2, 1, 4, 3, 6, 0, 7};
        for (int root = 0; root < 8; root++) {
            x.change(0, 4, root, 1);
            x.redouble(1, 1);
            due("root", x.of(1, 3), 2 * next[root]);
        }
    }

    private static void doubledBare() {
        CHECK.sentence(DOUBLED, "(Without EDGES: the MAP of one EDGE, ROOT 0.)");
        PlaneMaps x = Samples.used();
        Check.read(x, Samples.star(16), 1);
        x.change(1, 4, 31, 1);
        for (int slot : new int[] {1, 2, 0, 3}) {
            x.change(1, 0, 0, 2);
            due("one edge", x.redouble(3, slot), 1);
            CHECK.dueText("one edge", x, slot, Samples.EDGE);
            due("its root", x.of(slot, 3), 0);
            Check.read(x, Samples.star(16), 1);
            x.change(1, 4, 31, 1);
        }
    }
}
