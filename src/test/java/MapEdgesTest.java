/** Promises 15 to 22: each sentence that names a boundary case, each with a test of its own. */
public final class MapEdgesTest {
    private static final int NONE = PlaneMaps.NONE;
    private static final int LEAST = Integer.MIN_VALUE;
    private static final int MOST = Integer.MAX_VALUE;

    private static final Check CHECK = new Check("edges of promises 15 to 22");

    public static void main(String[] args) {
        ofNumbers();
        ofFour();
        ofTwoSorts();
        ofOneFace();
        ofNone();
        dartRows();
        dartNone();
        degreeRows();
        degreeNone();
        distanceOfTwo();
        distanceNone();
        ringOfDistance();
        ringGreatest();
        ringNone();
        codeOfNames();
        codeNone();
        alikeRooted();
        alikeFromSome();
        alikeMirrored();
        alikeNone();
        rootingsUnlike();
        rootingsBare();
        rootingsNone();
        CHECK.end();
    }

    private static void due(String what, long got, long want) {
        CHECK.due(what, got, want);
    }

    // ---- promises 15 to 17

    private static void ofNumbers() {
        CHECK.sentence("Promise 15", "Of a MAP 0 EDGES, 1 VERTICES, 2 FACES, 3 ROOT, 4 the greatest DEGREE of a VERTEX, 5 of a FACE");
        String[] texts = {"", Samples.EDGE, Samples.LOOP, Samples.path(16), Samples.loops(16), Samples.pair(16), Samples.cycle(16),
            Samples.star(16), Samples.TRIANGLE};
        int[][] want = {{0, 1, 1, 0, 0, 0}, {1, 2, 1, 0, 1, 2}, {1, 1, 2, 0, 2, 1}, {16, 17, 1, 0, 2, 32}, {16, 1, 17, 0, 32, 16},
            {16, 2, 16, 0, 16, 2}, {16, 16, 2, 0, 2, 16}, {16, 17, 1, 0, 16, 32}, {4, 4, 2, 0, 3, 5}};
        for (int i = 0; i < texts.length; i++) {
            PlaneMaps x = Samples.used();
            for (int slot = 0; slot < 4; slot++) {
                Check.read(x, texts[i], slot);
                for (int what = 0; what <= 5; what++) {
                    due("of " + what + ", " + texts[i], x.of(slot, what), want[i][what]);
                }
            }
        }
    }

    private static void ofFour() {
        CHECK.sentence("Promise 15", "6 1 if all FACES have DEGREE 4 and it has EDGES (else 0)");
        String[] four = {Samples.PATH, Samples.CYCLE_4, Samples.TURNED_46};
        String[] others = {"", Samples.EDGE, Samples.LOOP, Samples.TRIANGLE, Samples.cycle(3), Samples.cycle(5), Samples.path(3),
            Samples.path(16), "(0 7 8)(1 2)(3 4)(5 6)(9)", "(0 2 3)(1)"};
        for (String text : four) {
            due("of 6, " + text, CHECK.with(text).of(0, 6), 1);
        }
        for (String text : others) {
            due("of 6, " + text, CHECK.with(text).of(0, 6), 0);
        }
    }

    private static void ofTwoSorts() {
        CHECK.sentence("Promise 15", "7 1 if VERTICES can be parted in two so that each EDGE joins one with the other sort (else 0)");
        String[] can = {"", Samples.EDGE, Samples.PATH, Samples.CYCLE_4, Samples.cycle(2), Samples.pair(16), Samples.path(16), Samples.star(16),
            Samples.cycle(16)};
        String[] not = {Samples.LOOP, Samples.loops(16), Samples.cycle(3), Samples.cycle(15), Samples.TRIANGLE, "(0)(1 2)(3 4)(5 6 7)"};
        for (String text : can) {
            due("of 7, " + text, twoSorts(text), 1);
        }
        for (String text : not) {
            due("of 7, " + text, twoSorts(text), 0);
        }
    }

    /** Behind a call that measures in another map. */
    private static int twoSorts(String text) {
        PlaneMaps x = CHECK.with(text);
        Check.read(x, Samples.cycle(16), 1);
        x.distance(1, 3, 5);
        return x.of(0, 7);
    }

    private static void ofOneFace() {
        CHECK.sentence("Promise 15", "8 EDGES that have one FACE on both sides.");
        String[] texts = {"", Samples.EDGE, Samples.LOOP, Samples.path(16), Samples.loops(16), Samples.cycle(16), Samples.TRIANGLE};
        int[] want = {0, 1, 0, 16, 0, 0, 1};
        for (int i = 0; i < texts.length; i++) {
            due("of 8, " + texts[i], CHECK.with(texts[i]).of(0, 8), want[i]);
        }
    }

    private static void ofNone() {
        CHECK.sentence("Promise 15", "NONE if there is none such, or another what.");
        for (int slot : Samples.NO_MAP_SLOT) {
            for (int what = 0; what <= 8; what++) {
                int sort = what;
                CHECK.dueRefused("of slot " + slot, NONE, x -> x.of(slot, sort));
            }
        }
        for (int what : Samples.never(-1, 9)) {
            CHECK.dueRefused("of " + what, NONE, x -> x.of(1, what));
            CHECK.dueRefused("of " + what + " without edges", NONE, x -> x.of(3, what));
        }
    }

    private static void dartRows() {
        CHECK.sentence("Promise 16", "Of DART d 0 NEXT, 1 FOLLOW, 2 the VERTEX at which it begins, 3 its FACE.");
        PlaneMaps x = CHECK.with(Samples.cycle(16));
        int[] first = {31, 2, 0, 0};
        int[] last = {0, 29, 0, 1};
        int[] inside = {15, 18, 8, 0};
        for (int what = 0; what <= 3; what++) {
            due("the first dart " + what, x.dart(0, 0, what), first[what]);
            due("the last dart " + what, x.dart(0, 31, what), last[what]);
            due("dart 16 " + what, x.dart(0, 16, what), inside[what]);
        }
    }

    private static void dartNone() {
        CHECK.sentence("Promise 16", "NONE if there is none such, or another what.");
        for (int what = 0; what <= 3; what++) {
            int sort = what;
            for (int slot : Samples.NO_MAP_SLOT) {
                CHECK.dueRefused("dart of slot " + slot, NONE, x -> x.dart(slot, 0, sort));
            }
            for (int d : Samples.never(-1, 8, 31)) {
                CHECK.dueRefused("dart " + d, NONE, x -> x.dart(1, d, sort));
            }
            for (int d : new int[] {0, 1, -1}) {
                CHECK.dueRefused("dart " + d + " without edges", NONE, x -> x.dart(3, d, sort));
            }
            due("dart 32", CHECK.with(Samples.path(16)).dart(0, 32, what), NONE);
        }
        for (int what : Samples.never(-1, 4)) {
            CHECK.dueRefused("dart's " + what, NONE, x -> x.dart(1, 0, what));
        }
    }

    private static void degreeRows() {
        CHECK.sentence("Promise 17", "DEGREE of a VERTEX (of 0), a FACE (of 1).");
        PlaneMaps x = CHECK.with(Samples.star(16));
        due("the middle of a star", x.degree(0, 0, 0), 16);
        due("its last leaf", x.degree(0, 0, 16), 1);
        due("its face", x.degree(0, 1, 0), 32);
        x.change(0, 2, 0, 0);
        due("the vertex of its dual one", x.degree(0, 0, 0), 32);
        due("the first face", x.degree(0, 1, 0), 16);
        due("the last face", x.degree(0, 1, 16), 1);
        due("a vertex without edges", x.degree(1, 0, 0), 0);
        due("a face without edges", x.degree(1, 1, 0), 0);
    }

    private static void degreeNone() {
        CHECK.sentence("Promise 17", "NONE if there is none such.");
        for (int slot : Samples.NO_MAP_SLOT) {
            CHECK.dueRefused("degree in " + slot, NONE, x -> x.degree(slot, 0, 0));
            CHECK.dueRefused("degree in " + slot, NONE, x -> x.degree(slot, 1, 0));
        }
        for (int of : Samples.never(-1, 2)) {
            CHECK.dueRefused("degree of sort " + of, NONE, x -> x.degree(1, of, 0));
        }
        for (int k : Samples.never(-1)) {
            CHECK.dueRefused("degree of vertex " + k, NONE, x -> x.degree(1, 0, k));
            CHECK.dueRefused("degree of face " + k, NONE, x -> x.degree(1, 1, k));
        }
        CHECK.dueRefused("degree of vertex 4 of 4", NONE, x -> x.degree(1, 0, 4));
        CHECK.dueRefused("degree of face 2 of 2", NONE, x -> x.degree(1, 1, 2));
        CHECK.dueRefused("degree of vertex 1 without edges", NONE, x -> x.degree(3, 0, 1));
        CHECK.dueRefused("degree of face 1 without edges", NONE, x -> x.degree(3, 1, 1));
        due("degree of vertex 17", CHECK.with(Samples.path(16)).degree(0, 0, 17), NONE);
        due("degree of face 17", CHECK.with(Samples.loops(16)).degree(0, 1, 17), NONE);
    }

    // ---- promises 18 and 19

    private static void distanceOfTwo() {
        CHECK.sentence("Promise 18", "DISTANCE of two VERTICES.");
        PlaneMaps x = CHECK.with(Samples.path(16));
        Check.read(x, Samples.cycle(16), 1);
        for (int v = 0; v <= 16; v++) {
            due("along a path", x.distance(0, 0, v), v);
            due("and back", x.distance(0, v, 0), v);
            due("of one and itself", x.distance(0, v, v), 0);
            due("round a cycle, the shorter way", v < 16 ? x.distance(1, 0, v) : 0, Math.min(v, 16 - v));
        }
        due("without edges", x.distance(2, 0, 0), 0);
    }

    private static void distanceNone() {
        CHECK.sentence("Promise 18", "NONE if there are none such.");
        for (int slot : Samples.NO_MAP_SLOT) {
            CHECK.dueRefused("distance in " + slot, NONE, x -> x.distance(slot, 0, 0));
        }
        for (int v : Samples.never(-1, 4)) {
            CHECK.dueRefused("distance from " + v, NONE, x -> x.distance(1, v, 0));
            CHECK.dueRefused("distance to " + v, NONE, x -> x.distance(1, 0, v));
            CHECK.dueRefused("distance of " + v + " and itself", NONE, x -> x.distance(1, v, v));
        }
        CHECK.dueRefused("distance from 1 without edges", NONE, x -> x.distance(3, 1, 0));
        CHECK.dueRefused("distance to 1 without edges", NONE, x -> x.distance(3, 0, 1));
        due("distance to vertex 17", CHECK.with(Samples.path(16)).distance(0, 0, 17), NONE);
    }

    private static void ringOfDistance() {
        CHECK.sentence("Promise 19", "How many VERTICES have a DISTANCE d (0 on) from a VERTEX");
        PlaneMaps x = CHECK.with(Samples.cycle(16));
        for (int d = 0; d <= 40; d++) {
            due("round a cycle " + d, x.ring(0, 5, d), d == 0 || d == 8 ? 1 : d < 8 ? 2 : 0);
        }
        Check.read(x, Samples.star(16), 1);
        due("from the middle of a star", x.ring(1, 0, 1), 16);
        due("from a leaf", x.ring(1, 16, 2), 15);
        due("itself", x.ring(1, 16, 0), 1);
        due("far beyond", x.ring(1, 16, MOST), 0);
        due("without edges", x.ring(2, 0, 0), 1);
        due("without edges beyond", x.ring(2, 0, 1), 0);
    }

    private static void ringGreatest() {
        CHECK.sentence("Promise 19", "d NONE: the greatest DISTANCE from it.");
        PlaneMaps x = CHECK.with(Samples.path(16));
        for (int v = 0; v <= 16; v++) {
            due("along a path from " + v, x.ring(0, v, NONE), Math.max(v, 16 - v));
        }
        due("without edges", x.ring(1, 0, NONE), 0);
        Check.read(x, Samples.loops(16), 2);
        due("loops alone", x.ring(2, 0, NONE), 0);
    }

    private static void ringNone() {
        CHECK.sentence("Promise 19", "NONE if there is none such.");
        for (int d : new int[] {0, 1, NONE}) {
            for (int slot : Samples.NO_MAP_SLOT) {
                CHECK.dueRefused("ring in " + slot, NONE, x -> x.ring(slot, 0, d));
            }
            for (int v : Samples.never(-1, 4)) {
                CHECK.dueRefused("ring of " + v, NONE, x -> x.ring(1, v, d));
            }
            CHECK.dueRefused("ring of 1 without edges", NONE, x -> x.ring(3, 1, d));
        }
        for (int d : new int[] {-2, -3, -100, LEAST}) {
            CHECK.dueRefused("ring of distance " + d, NONE, x -> x.ring(1, 0, d));
        }
    }

    // ---- promises 20 to 22

    private static void codeOfNames() {
        CHECK.sentence("Promise 20", "CODE: of name i the name of NEXT.");
        PlaneMaps x = CHECK.with(Samples.loops(16));
        for (int i = 0; i < 32; i++) {
            due("code " + i, x.code(0, i), (i + 1) % 32);
        }
        Check.read(x, Samples.EDGE, 1);
        due("first name of one edge", x.code(1, 0), 0);
        due("last name of one edge", x.code(1, 1), 1);
    }

    private static void codeNone() {
        CHECK.sentence("Promise 20", "NONE if there is none such.");
        for (int slot : Samples.NO_MAP_SLOT) {
            CHECK.dueRefused("code of " + slot, NONE, x -> x.code(slot, 0));
        }
        for (int i : Samples.never(-1, 8)) {
            CHECK.dueRefused("code of name " + i, NONE, x -> x.code(1, i));
        }
        CHECK.dueRefused("code without edges", NONE, x -> x.code(3, 0));
        due("code of name 32", CHECK.with(Samples.loops(16)).code(0, 32), NONE);
    }

    private static void alikeRooted() {
        CHECK.sentence("Promise 21", "Whether two are ALIKE (how 0)");
        PlaneMaps x = CHECK.with(Samples.TRIANGLE);
        Check.read(x, "(7)(6 0 5)(2 1)(4 3)", 1);
        due("told otherwise", x.alike(0, 1, 0), 1);
        due("one and itself", x.alike(0, 0, 0), 1);
        for (int d = 1; d < 8; d++) {
            x.change(0, 4, d, 1);
            due("another root", x.alike(0, 1, 0), 0);
            x.change(1, 3, 0, 1);
            due("another code", x.alike(0, 1, 0), 0);
        }
        due("one edge fewer", x.alike(0, 3, 0), 0);
        due("both without edges", x.alike(2, 3, 0), 1);
        due("one without edges", x.alike(3, 3, 0), 1);
    }

    private static void alikeFromSome() {
        CHECK.sentence("Promise 21", "whether one is ALIKE to the other one from some DART as ROOT (1)");
        PlaneMaps x = CHECK.with(Samples.TRIANGLE);
        for (int d = 0; d < 8; d++) {
            x.change(0, 4, d, 1);
            due("from dart " + d, x.alike(0, 1, 1), 1);
            due("to dart " + d, x.alike(1, 0, 1), 1);
        }
        Check.read(x, "(0 6 5)(1 2)(3 4)(7)", 1);
        due("its leaf is in the other face: mirrored, yet from another root", x.alike(0, 1, 1), 1);
        Check.read(x, Samples.path(4), 1);
        due("as many edges", x.alike(0, 1, 1), 0);
        due("fewer edges", x.alike(0, 2, 1), 0);
        due("more edges", x.alike(2, 0, 1), 0);
        due("both without edges", x.alike(2, 3, 1), 1);
    }

    // two leaves, one of two edges, beside each other on a triangle tell left from right
    private static void alikeMirrored() {
        CHECK.sentence("Promise 21", "or to that one MIRRORED (2; from some DART, too): 1, 0.");
        PlaneMaps x = CHECK.with("(0 5 6)(1 2 8)(3 4)(7)(9 10)(11)");
        for (int d = 0; d < 12; d++) {
            x.change(0, 4, d, 1);
            x.change(1, 1, 0, 2);
            due("mirrored from dart " + d, x.alike(0, 2, 2), 1);
            due("the other way round", x.alike(2, 0, 2), 1);
            due("not from some dart alone", x.alike(0, 2, 1), 0);
            due("not without mirroring", x.alike(0, 1, 2), 0);
        }
        Check.read(x, Samples.TRIANGLE, 1);
        due("a map that is its own mirrored one", x.alike(1, 1, 2), 1);
        due("fewer edges", x.alike(0, 1, 2), 0);
        due("both without edges", x.alike(3, 3, 2), 1);
        Check.read(x, Samples.EDGE, 1);
        Check.read(x, Samples.LOOP, 2);
        due("one edge and a loop", x.alike(1, 2, 2), 0);
        due("one without edges", x.alike(3, 1, 2), 0);
        CHECK.dueText("the maps stay", x, 2, Samples.LOOP);
    }

    private static void alikeNone() {
        CHECK.sentence("Promise 21", "NONE if there are none such.");
        for (int how = 0; how <= 2; how++) {
            int way = how;
            for (int slot : Samples.NO_MAP_SLOT) {
                CHECK.dueRefused("alike of " + slot, NONE, x -> x.alike(slot, 0, way));
                CHECK.dueRefused("alike to " + slot, NONE, x -> x.alike(0, slot, way));
            }
        }
        for (int how : Samples.never(-1, 3)) {
            CHECK.dueRefused("alike " + how, NONE, x -> x.alike(1, 1, how));
            CHECK.dueRefused("alike " + how + " with fewer edges", NONE, x -> x.alike(0, 1, how));
        }
    }

    private static void rootingsUnlike() {
        CHECK.sentence("Promise 22", "How many of its rootings (from each DART) have unlike CODES");
        String[] texts = {Samples.EDGE, Samples.LOOP, Samples.PATH, Samples.TRIANGLE, Samples.path(16), Samples.path(15), Samples.cycle(16),
            Samples.pair(16), Samples.star(16), Samples.loops(16)};
        int[] want = {1, 1, 2, 8, 16, 15, 1, 1, 2, 2};
        for (int i = 0; i < texts.length; i++) {
            PlaneMaps x = CHECK.with(texts[i]);
            due("rootings of " + texts[i], x.rootings(0), want[i]);
            x.change(0, 4, 1, 0);
            due("the root does not matter", x.rootings(0), want[i]);
        }
        PlaneMaps y = new PlaneMaps();
        y.tree(0, 8, 4711331);
        y.turn(0, 0, 0);
        due("all of thirty-two", y.rootings(0), 32);
    }

    private static void rootingsBare() {
        CHECK.sentence("Promise 22", "(1 without EDGES).");
        PlaneMaps x = new PlaneMaps();
        for (int slot = 0; slot < 4; slot++) {
            due("at first", x.rootings(slot), 1);
            Check.read(x, Samples.LOOP, slot);
            x.change(slot, 5, 0, slot);
            due("without the last edge", x.rootings(slot), 1);
        }
    }

    private static void rootingsNone() {
        CHECK.sentence("Promise 22", "NONE if there is none such.");
        for (int slot : Samples.NO_MAP_SLOT) {
            CHECK.dueRefused("rootings of " + slot, NONE, x -> x.rootings(slot));
        }
    }
}
