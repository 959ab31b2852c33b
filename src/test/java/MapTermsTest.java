/** What the document says of MAPS, CODES and COUNT ("Terms", ahead of ==== 2.), sentence by sentence. */
public final class MapTermsTest {
    private static final int NONE = PlaneMaps.NONE;
    private static final String TERMS = "Terms";

    private static final Check CHECK = new Check("terms of maps");

    public static void main(String[] args) {
        edgesAndDarts();
        otherDarts();
        next();
        vertices();
        faces();
        connected();
        plane();
        root();
        degree();
        codeOfFirstDarts();
        codeOfVertices();
        codeOfAll();
        codeOfRoot();
        alike();
        countOfAllSizes();
        countOfNoEdges();
        countOfEdges();
        CHECK.end();
    }

    private static void due(String what, long got, long want) {
        CHECK.due(what, got, want);
    }

    private static void edgesAndDarts() {
        CHECK.sentence(TERMS, "A MAP has E EDGES (0 .. 16) and 2 E DARTS 0, 1, ..");
        for (int edges = 0; edges <= 16; edges++) {
            PlaneMaps x = CHECK.with(Samples.path(edges));
            due("edges", x.of(0, 0), edges);
            for (int d = 0; d < 2 * edges; d++) {
                due("there is dart " + d, x.dart(0, d, 0) >= 0 ? 1 : 0, 1);
            }
            due("there is no dart -1", x.dart(0, -1, 0), NONE);
            due("there is no dart " + 2 * edges, x.dart(0, 2 * edges, 0), NONE);
        }
        due("seventeen edges are too many", Check.read(new PlaneMaps(), Samples.path(17), 0), NONE);
    }

    private static void otherDarts() {
        CHECK.sentence(TERMS, "DART d and the other one of its EDGE, d xor 1, go the two ways along it");
        PlaneMaps x = CHECK.with(Samples.path(16));
        for (int edge = 0; edge < 16; edge++) {
            due("dart goes from vertex", x.dart(0, 2 * edge, 2), edge);
            due("dart goes to vertex", x.dart(0, 2 * edge + 1, 2), edge + 1);
        }
        for (int v = 1; v <= 16; v++) {
            due("an edge joins both", x.distance(0, v - 1, v), 1);
        }
    }

    private static void next() {
        CHECK.sentence(TERMS, "from each DART the NEXT one round the VERTEX at which it begins, clockwise");
        PlaneMaps x = CHECK.with("(0 2 4)(1)(3 5)");
        int[] want = {2, 1, 4, 5, 0, 3};
        for (int d = 0; d < want.length; d++) {
            due("next of " + d, x.dart(0, d, 0), want[d]);
        }
        due("one dart alone is its own next", CHECK.with(Samples.EDGE).dart(0, 1, 0), 1);
        PlaneMaps y = CHECK.with(Samples.LOOP);
        due("a loop's other dart is next", y.dart(0, 0, 0), 1);
        due("and the first one behind it", y.dart(0, 1, 0), 0);
    }

    private static void vertices() {
        CHECK.sentence(TERMS, "VERTICES are the rounds of NEXT, numbered from 0 on by their least DARTS (without EDGES there is one)");
        PlaneMaps x = CHECK.with("(7)(4 3)(2 1)(6 0 5)");
        int[] want = {0, 1, 1, 2, 2, 0, 0, 3};
        for (int d = 0; d < want.length; d++) {
            due("vertex of " + d, x.dart(0, d, 2), want[d]);
        }
        due("vertices", x.of(0, 1), 4);
        due("vertices without edges", x.of(1, 1), 1);
        due("most vertices", CHECK.with(Samples.path(16)).of(0, 1), 17);
        due("one vertex of all darts", CHECK.with(Samples.loops(16)).of(0, 1), 1);
    }

    private static void faces() {
        CHECK.sentence(TERMS, "FACES are the rounds of FOLLOW: NEXT of the other DART of its EDGE (the FACE is to the left of its"
                + " DARTS), numbered likewise (without EDGES there is one)");
        PlaneMaps x = CHECK.with(Samples.loops(16));
        for (int d = 0; d < 32; d++) {
            due("follow of " + d, x.dart(0, d, 1), d % 2 == 1 ? d : (d + 2) % 32);
            due("face of " + d, x.dart(0, d, 3), d % 2 == 1 ? (d + 1) / 2 : 0);
        }
        due("most faces", x.of(0, 2), 17);
        due("faces without edges", x.of(1, 2), 1);
        PlaneMaps y = CHECK.with(Samples.path(16));
        due("one face of all darts", y.of(0, 2), 1);
        due("behind a leaf it goes back", y.dart(0, 30, 1), 31);
        due("at the other leaf, too", y.dart(0, 1, 1), 0);
    }

    private static void connected() {
        CHECK.sentence(TERMS, "It is connected");
        due("two edges apart", Check.read(new PlaneMaps(), "(0)(1)(2)(3)", 0), NONE);
        due("two edges at one vertex", Check.read(new PlaneMaps(), "(0 2)(1)(3)", 0), 2);
        due("two loops apart", Check.read(new PlaneMaps(), "(0 1)(2 3)", 0), NONE);
    }

    private static void plane() {
        CHECK.sentence(TERMS, "PLANE: VERTICES and FACES together are E and 2");
        String[] texts = {"", Samples.EDGE, Samples.LOOP, Samples.TRIANGLE, Samples.path(16), Samples.cycle(16), Samples.star(16),
            Samples.loops(16), Samples.pair(16)};
        for (String text : texts) {
            PlaneMaps x = CHECK.with(text);
            due("vertices and faces of " + text, x.of(0, 1) + x.of(0, 2), x.of(0, 0) + 2);
        }
        due("two loops that cross", Check.read(new PlaneMaps(), "(0 2 1 3)", 0), NONE);
        due("three edges that cross", Check.read(new PlaneMaps(), "(0 2 4)(1 3 5)", 0), NONE);
        due("three that do not", Check.read(new PlaneMaps(), "(0 2 4)(1 5 3)", 0), 3);
    }

    private static void root() {
        CHECK.sentence(TERMS, "ROOT: a DART (0 without EDGES)");
        PlaneMaps x = CHECK.with(Samples.path(16));
        for (int slot = 3; slot >= 0; slot--) {
            x.change(0, 4, 31, slot);
            due("the last dart as root", x.of(slot, 3), 31);
        }
        Check.read(x, Samples.LOOP, 1);
        x.change(1, 4, 1, 1);
        x.change(0, 0, 0, 2);
        x.change(1, 5, 1, 1);
        due("root without the last edge", x.of(1, 3), 0);
        Check.read(x, Samples.EDGE, 1);
        x.change(1, 4, 1, 1);
        x.change(0, 0, 0, 2);
        x.halve(1, 1);
        due("root of one edge halved", x.of(1, 3), 0);
        x.map(0);
        due("root of no text", x.of(0, 3), 0);
    }

    private static void degree() {
        CHECK.sentence(TERMS, "DEGREE: how many DARTS a VERTEX (begin there), a FACE has");
        PlaneMaps x = CHECK.with(Samples.loops(16));
        due("both darts of a loop begin there", x.degree(0, 0, 0), 32);
        due("face between all loops", x.degree(0, 1, 0), 16);
        due("face inside a loop", x.degree(0, 1, 16), 1);
        due("vertex without edges", x.degree(1, 0, 0), 0);
        due("face without edges", x.degree(1, 1, 0), 0);
        PlaneMaps y = CHECK.with(Samples.path(16));
        due("face on both sides of all edges", y.degree(0, 1, 0), 32);
        due("a leaf", y.degree(0, 0, 16), 1);
    }

    private static void codeOfFirstDarts() {
        CHECK.sentence(TERMS, "CODE of a MAP from a DART on: that one is named 0, the other one of its EDGE 1");
        PlaneMaps x = CHECK.with(Samples.loops(2));
        CHECK.due("from 0", Check.code(x, 0), "1 2 3 0");
        x.change(0, 4, 1, 0);
        CHECK.due("from 1: 1 0 2 3", Check.code(x, 0), "2 0 3 1");
        x.change(0, 4, 3, 0);
        CHECK.due("from 3: 3 2 0 1", Check.code(x, 0), "2 0 3 1");
        CHECK.due("of a loop", Check.code(CHECK.with(Samples.LOOP), 0), "1 0");
        CHECK.due("of one edge", Check.code(CHECK.with(Samples.EDGE), 0), "0 1");
    }

    private static void codeOfVertices() {
        CHECK.sentence(TERMS, "then VERTEX by VERTEX, in the order in which their first DARTS were named, from that first DART on NEXT"
                + " by NEXT, each DART that has no name yet, and the other one of its EDGE, get the next two names");
        PlaneMaps x = CHECK.with(Samples.PATH);
        CHECK.due("from an end: 0 1 2 3", Check.code(x, 0), "0 2 1 3");
        x.change(0, 4, 1, 0);
        CHECK.due("from the middle: 1 0 2 3", Check.code(x, 0), "2 1 0 3");
        // a vertex named first by dart 5 is gone round from 5 on, though it has dart 2: 0 1 4 5 | 7 6 2 3
        PlaneMaps y = CHECK.with("(0 4)(1)(2 5 7)(3)(6)");
        CHECK.due("from its first dart on", Check.code(y, 0), "2 1 0 4 6 5 3 7");
        // the other dart's vertex waits behind that of the first one: 0 1 4 5 | 2 3
        PlaneMaps z = CHECK.with("(0 4)(1 2)(3)(5)");
        CHECK.due("vertex of the root ahead of the other one", Check.code(z, 0), "2 4 0 3 1 5");
    }

    private static void codeOfAll() {
        CHECK.sentence(TERMS, "the CODE: for each name the name of NEXT");
        PlaneMaps x = CHECK.with(Samples.star(16));
        x.change(0, 4, 31, 0);
        for (int name = 0; name < 32; name++) {
            int inside = name == 30 ? 1 : name + 2;
            due("code of a leaf of a star, " + name, x.code(0, name), name == 0 ? 0 : name == 1 ? 2 : name % 2 == 1 ? name : inside);
        }
        due("without edges there is none", x.code(1, 0), NONE);
    }

    private static void codeOfRoot() {
        CHECK.sentence(TERMS, "CODE of a MAP: from its ROOT on");
        PlaneMaps x = CHECK.with(Samples.PATH);
        String[] want = {"0 2 1 3", "2 1 0 3", "2 1 0 3", "0 2 1 3"};
        for (int d = 0; d < 4; d++) {
            x.change(0, 4, d, 1);
            CHECK.due("with root " + d, Check.code(x, 1), want[d]);
        }
    }

    private static void alike() {
        CHECK.sentence(TERMS, "Two MAPS are ALIKE with the same CODE");
        PlaneMaps x = CHECK.with(Samples.EDGE);
        x.change(0, 4, 1, 1);
        due("one edge from its other dart", x.alike(0, 1, 0), 1);
        due("two without edges", x.alike(2, 3, 0), 1);
        due("one without and one with an edge", x.alike(2, 0, 0), 0);
        Check.read(x, Samples.LOOP, 2);
        due("one edge and a loop", x.alike(0, 2, 0), 0);
        Check.read(x, Samples.path(16), 0);
        x.change(0, 4, 31, 1);
        due("a path from its other end", x.alike(0, 1, 0), 1);
        x.change(0, 4, 30, 1);
        due("a path from its other end's other dart", x.alike(0, 1, 0), 0);
    }

    private static void countOfAllSizes() {
        CHECK.sentence(TERMS, "COUNT of n (0 .. 14) and k");
        for (int n = -2; n <= 16; n++) {
            due("there is one of " + n, new PlaneMaps().count(n, 2 * Math.min(14, Math.max(0, n))) > 0 ? 1 : 0, n >= 0 && n <= 14 ? 1 : 0);
        }
        due("of -1", new PlaneMaps().count(-1, 0), NONE);
        due("of 15", new PlaneMaps().count(15, 28), NONE);
    }

    private static void countOfNoEdges() {
        CHECK.sentence(TERMS, "1 of 0 and 0, 0 of 0 and another k");
        PlaneMaps x = new PlaneMaps();
        for (int k = 0; k <= 28; k++) {
            due("count of 0 and " + k, x.count(0, k), k == 0 ? 1 : 0);
        }
    }

    private static void countOfEdges() {
        CHECK.sentence(TERMS, "else the sum of COUNT i, a times COUNT j, b, over all i and j that are n less 1 together, a and b (0 or"
                + " more) k less 2, and of all COUNT n less 1, c, for c from k less 1 on (k 1 or more)");
        long[][] want = {{0, 1, 1}, {0, 2, 2, 3, 2}, {0, 9, 9, 11, 10, 10, 5}};
        PlaneMaps x = new PlaneMaps();
        for (int n = 1; n <= want.length; n++) {
            for (int k = 0; k <= 28; k++) {
                due("count of " + n + " and " + k, x.count(n, k), k <= 2 * n ? want[n - 1][k] : 0);
            }
        }
        for (int n = 1; n <= 14; n++) {
            due("no root's face of degree 0, " + n, x.count(n, 0), 0);
            due("a loop round all others, " + n, x.count(n, 1), x.count(n - 1, NONE));
            due("trees, " + n, x.count(n, 2 * n), catalan(n));
        }
        for (int n = 1; n < 14; n++) {
            due("none of more sides, " + n, x.count(n, 2 * n + 1), 0);
        }
    }

    private static long catalan(int n) {
        long number = 1;
        for (int i = 0; i < n; i++) {
            number = number * 2 * (2 * i + 1) / (i + 2);
        }
        return number;
    }
}
