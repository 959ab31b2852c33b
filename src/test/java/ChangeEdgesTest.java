/** Promises 23 to 25: each sentence that names a boundary case, each with a test of its own. */
public final class ChangeEdgesTest {
    private static final int NONE = PlaneMaps.NONE;

    private static final Check CHECK = new Check("edges of promises 23 to 25");

    public static void main(String[] args) {
        changeSame();
        changeAsItIs();
        changeMirrored();
        changeDual();
        changeByCode();
        changeRoot();
        changeUnlikeFaces();
        changeNumbers();
        changeRootStays();
        changeRootGoes();
        changeLastEdge();
        changeNone();
        changeDartFree();
        shownRounds();
        shownLength();
        shownNone();
        lookTape();
        lookEdges();
        lookNone();
        CHECK.end();
    }

    private static void due(String what, long got, long want) {
        CHECK.due(what, got, want);
    }

    // ---- promise 23

    private static void changeSame() {
        CHECK.sentence("Promise 23", "A MAP comes into a SLOT (may be the same)");
        String[] want = {Samples.TRIANGLE, "(0 6 5)(1 2)(3 4)(7)", "(0 2 4 6 7)(1 5 3)", "(0 2 4)(1 6)(3 7)(5)", Samples.TRIANGLE,
            "(0 3 4)(1)(2)(5)"};
        for (int how = 0; how <= 5; how++) {
            for (int map = 0; map < 4; map++) {
                for (int into = 0; into < 4; into++) {
                    PlaneMaps x = new PlaneMaps();
                    Check.read(x, Samples.TRIANGLE, map);
                    due("edges", x.change(map, how, 2, into), how == 5 ? 3 : 4);
                    CHECK.dueText("change " + how, x, into, want[how]);
                    CHECK.dueText("the one it came of", x, map, map == into ? want[how] : Samples.TRIANGLE);
                }
            }
        }
    }

    private static void changeAsItIs() {
        CHECK.sentence("Promise 23", "how 0 as it is");
        PlaneMaps x = CHECK.with(Samples.star(16));
        x.change(0, 4, 31, 0);
        due("edges", x.change(0, 0, 0, 1), 16);
        CHECK.dueText("as it is", x, 1, Samples.star(16));
        due("its root", x.of(1, 3), 31);
        due("without edges", x.change(3, 0, 0, 1), 0);
        due("nothing is left of the other", x.of(1, 1), 1);
    }

    private static void changeMirrored() {
        CHECK.sentence("Promise 23", "1 MIRRORED (NEXT is the one ahead, clockwise)");
        PlaneMaps x = CHECK.with(Samples.star(16));
        x.change(0, 4, 30, 0);
        due("edges", x.change(0, 1, 0, 1), 16);
        for (int d = 0; d < 32; d += 2) {
            due("next of " + d, x.dart(1, d, 0), (d + 30) % 32);
            due("a leaf stays", x.dart(1, d + 1, 0), d + 1);
        }
        due("its root", x.of(1, 3), 30);
        due("twice", x.change(1, 1, 0, 1), 16);
        CHECK.dueText("it is as before", x, 1, Samples.star(16));
        due("without edges", x.change(3, 1, 0, 1), 0);
        Check.read(x, Samples.LOOP, 2);
        x.change(2, 1, 0, 2);
        CHECK.dueText("a loop", x, 2, Samples.LOOP);
    }

    private static void changeDual() {
        CHECK.sentence("Promise 23", "2 its dual one (NEXT is FOLLOW)");
        PlaneMaps x = CHECK.with(Samples.EDGE);
        x.change(0, 4, 1, 0);
        due("of one edge", x.change(0, 2, 0, 1), 1);
        CHECK.dueText("is a loop", x, 1, Samples.LOOP);
        due("root stays", x.of(1, 3), 1);
        due("of a loop", x.change(1, 2, 0, 1), 1);
        CHECK.dueText("is one edge", x, 1, Samples.EDGE);
        due("without edges", x.change(3, 2, 0, 1), 0);
        due("one vertex", x.of(1, 1), 1);
        Check.read(x, Samples.path(16), 2);
        due("of sixteen", x.change(2, 2, 0, 2), 16);
        due("one vertex", x.of(2, 1), 1);
        due("seventeen faces", x.of(2, 2), 17);
    }

    private static void changeByCode() {
        CHECK.sentence("Promise 23", "3 by its CODE (DARTS by their names, ROOT 0)");
        PlaneMaps x = CHECK.with(Samples.star(16));
        x.change(0, 4, 31, 0);
        due("edges", x.change(0, 3, 0, 1), 16);
        due("root", x.of(1, 3), 0);
        for (int i = 0; i < 32; i++) {
            due("next is the code", x.dart(1, i, 0), x.code(0, i));
        }
        due("alike", x.alike(0, 1, 0), 1);
        due("without edges", x.change(3, 3, 0, 1), 0);
        due("root", x.of(1, 3), 0);
    }

    private static void changeRoot() {
        CHECK.sentence("Promise 23", "4 with DART d as ROOT");
        PlaneMaps x = CHECK.with(Samples.path(16));
        for (int d = 0; d < 32; d++) {
            due("edges", x.change(0, 4, d, 1), 16);
            due("root", x.of(1, 3), d);
        }
        CHECK.dueText("else as it is", x, 1, Samples.path(16));
        due("dart 32", x.change(0, 4, 32, 1), NONE);
        due("dart -1", x.change(0, 4, -1, 1), NONE);
        due("root stays then", x.of(1, 3), 31);
        due("without edges there is none", x.change(3, 4, 0, 1), NONE);
    }

    private static void changeUnlikeFaces() {
        CHECK.sentence("Promise 23", "5 without the EDGE of DART d (which has unlike FACES on both sides;");
        PlaneMaps x = CHECK.with(Samples.TRIANGLE);
        for (int d = 0; d < 8; d++) {
            due("dart " + d, x.change(0, 5, d, 1), d < 6 ? 3 : NONE);
        }
        PlaneMaps y = CHECK.with(Samples.path(16));
        for (int d = 0; d < 32; d++) {
            due("one face on both sides", y.change(0, 5, d, 0), NONE);
        }
        CHECK.dueText("it stays", y, 0, Samples.path(16));
        PlaneMaps z = CHECK.with(Samples.loops(16));
        for (int edges = 15; edges >= 0; edges--) {
            due("one loop after the other", z.change(0, 5, 1, 0), edges);
            due("vertices", z.of(0, 1), 1);
            due("faces", z.of(0, 2), edges + 1);
        }
    }

    private static void changeNumbers() {
        CHECK.sentence("Promise 23", "the others as they stand, numbered anew in their order;");
        PlaneMaps x = CHECK.with(Samples.CYCLE_4);
        String[] want = {"(0)(1 2)(3 4)(5)", "(0 5)(1)(2)(3 4)", "(0 5)(1 2)(3)(4)", "(0)(1 2)(3 4)(5)"};
        for (int edge = 0; edge < 4; edge++) {
            x.change(0, 5, 2 * edge, 1);
            CHECK.dueText("without edge " + edge, x, 1, want[edge]);
            x.change(0, 5, 2 * edge + 1, 2);
            CHECK.dueText("by its other dart", x, 2, want[edge]);
        }
        Check.read(x, Samples.pair(16), 0);
        x.change(0, 5, 31, 1);
        CHECK.dueText("without the last edge", x, 1, Samples.pair(15));
        x.change(0, 5, 0, 1);
        CHECK.dueText("without the first edge", x, 1, Samples.pair(15));
    }

    private static void changeRootStays() {
        CHECK.sentence("Promise 23", "ROOT stays;");
        PlaneMaps x = CHECK.with(Samples.CYCLE_4);
        for (int root = 0; root < 8; root++) {
            x.change(0, 4, root, 1);
            for (int edge = 0; edge < 4; edge++) {
                if (edge != root / 2) {
                    x.change(1, 5, 2 * edge, 2);
                    due("root " + root + " without " + edge, x.of(2, 3), root / 2 > edge ? root - 2 : root);
                }
            }
        }
    }

    private static void changeRootGoes() {
        CHECK.sentence("Promise 23", "if that goes, it is NEXT of it, or, if that goes, too, NEXT of that;");
        // next of 0 to 7 is 7 2 1 4 3 6 5 0; numbers above the edge that goes are two less then
        int[] want = {5, 0, 1, 2, 3, 4, 5, 0};
        PlaneMaps x = CHECK.with(Samples.CYCLE_4);
        for (int root = 0; root < 8; root++) {
            x.change(0, 4, root, 1);
            x.change(1, 5, root, 1);
            due("next of root " + root, x.of(1, 3), want[root]);
        }
        // a loop's other dart stands right behind: 0, then 1, then 2
        String[] texts = {"(0 1 2)(3)", "(2 3 0)(1)", "(0 2 3)(1)", "(3 2 0)(1)"};
        int[] roots = {0, 2, 2, 3};
        for (int i = 0; i < texts.length; i++) {
            Check.read(x, texts[i], 2);
            x.change(2, 4, roots[i], 2);
            x.change(2, 5, roots[i], 2);
            CHECK.dueText("one edge is left", x, 2, Samples.EDGE);
            due("next but one of " + roots[i] + " in " + texts[i], x.of(2, 3), 0);
        }
        Check.read(x, "(0 1 4 2)(3)(5)", 2);
        x.change(2, 5, 1, 2);
        due("0, 1, then 4, now 2", x.of(2, 3), 2);
    }

    private static void changeLastEdge() {
        CHECK.sentence("Promise 23", "0 without EDGES)");
        for (int root = 0; root <= 1; root++) {
            for (int d = 0; d <= 1; d++) {
                PlaneMaps x = Samples.used();
                Check.read(x, Samples.LOOP, 0);
                x.change(0, 4, root, 0);
                x.change(0, 4, root, 0);
                due("no edge is left", x.change(0, 5, d, 0), 0);
                CHECK.dueBare("without its last edge", x, 0);
                due("none can go", x.change(0, 5, 0, 0), NONE);
            }
        }
    }

    private static void changeNone() {
        CHECK.sentence("Promise 23", "NONE if there is none such, it can't be");
        for (int how = 0; how <= 5; how++) {
            int way = how;
            for (int slot : Samples.NO_MAP_SLOT) {
                CHECK.dueRefused("change of " + slot, NONE, x -> x.change(slot, way, 0, 0));
                CHECK.dueRefused("change into " + slot, NONE, x -> x.change(1, way, 0, slot));
            }
        }
        for (int how : Samples.never(-1, 6)) {
            CHECK.dueRefused("change " + how, NONE, x -> x.change(1, how, 0, 0));
        }
        for (int d : Samples.never(-1, 8)) {
            CHECK.dueRefused("root " + d, NONE, x -> x.change(1, 4, d, 0));
            CHECK.dueRefused("without " + d, NONE, x -> x.change(1, 5, d, 0));
        }
        for (int d : new int[] {6, 7}) {
            CHECK.dueRefused("without an edge in one face", NONE, x -> x.change(1, 5, d, 1));
        }
        for (int d : new int[] {-1, 0, 1}) {
            CHECK.dueRefused("root " + d + " without edges", NONE, x -> x.change(3, 4, d, 1));
            CHECK.dueRefused("without " + d + " without edges", NONE, x -> x.change(3, 5, d, 1));
        }
    }

    private static void changeDartFree() {
        CHECK.sentence("Promise 23", "(d doesn't matter for 0 to 3).");
        for (int how = 0; how <= 3; how++) {
            for (int d : Samples.never(-1, 8, 0)) {
                PlaneMaps x = CHECK.with(Samples.TRIANGLE);
                x.change(0, how, 0, 1);
                due("change " + how + " with " + d, x.change(0, how, d, 2), 4);
                CHECK.due("as with dart 0", Check.shown(x, 2), Check.shown(x, 1));
                due("without edges", x.change(3, how, d, 0), 0);
                CHECK.dueBare("changed without edges", x, 0);
            }
        }
    }

    // ---- promises 24 and 25

    private static void shownRounds() {
        CHECK.sentence("Promise 24", "Byte i of the TEXT by which a MAP is told: ROUNDS of NEXT by their least DARTS, from these on, numbers"
                + " parted by one blank each, nothing else between");
        PlaneMaps x = CHECK.with("\n( 7 )( 6\n\n00 05 ) ( 2 1) (4  3) ");
        CHECK.dueText("told otherwise", x, 0, Samples.TRIANGLE);
        x.change(0, 4, 7, 0);
        CHECK.dueText("its root doesn't matter", x, 0, Samples.TRIANGLE);
        due("first byte", x.shown(0, 0), 40);
        due("last byte", x.shown(0, 19), 41);
        due("a blank", x.shown(0, 2), 32);
        for (String text : new String[] {"", Samples.star(16), Samples.path(16), Samples.loops(16), Samples.cycle(16), Samples.pair(16)}) {
            CHECK.dueText("as it was told", CHECK.with(text), 0, text);
        }
        PlaneMaps y = CHECK.with(Samples.path(16));
        due("read again", Check.read(y, Check.shown(y, 0), 1), 16);
        CHECK.dueText("it is the same", y, 1, Samples.path(16));
    }

    private static void shownLength() {
        CHECK.sentence("Promise 24", "i NONE: how many bytes.");
        String[] texts = {"", Samples.EDGE, Samples.LOOP, Samples.path(5), Samples.path(6), Samples.path(16), Samples.loops(16)};
        for (String text : texts) {
            due("bytes of " + text, CHECK.with(text).shown(0, NONE), text.length());
        }
    }

    private static void shownNone() {
        CHECK.sentence("Promise 24", "NONE if there is none such.");
        for (int slot : Samples.NO_MAP_SLOT) {
            CHECK.dueRefused("shown of " + slot, NONE, x -> x.shown(slot, 0));
            CHECK.dueRefused("length of " + slot, NONE, x -> x.shown(slot, NONE));
        }
        for (int i : Samples.never(20, 21)) {
            CHECK.dueRefused("byte " + i, NONE, x -> x.shown(1, i));
        }
        for (int i : new int[] {0, 1, -2}) {
            CHECK.dueRefused("byte " + i + " without edges", NONE, x -> x.shown(3, i));
        }
        PlaneMaps x = CHECK.with(Samples.path(16));
        due("beyond the longest", x.shown(0, Samples.path(16).length()), NONE);
        due("far beyond the longest", x.shown(0, 128), NONE);
    }

    private static void lookTape() {
        CHECK.sentence("Promise 25", "0 bytes of THE TAPE");
        PlaneMaps x = new PlaneMaps();
        due("none", x.look(0), 0);
        x.feed(0, 0, 0, 0, 0);
        due("twenty", x.look(0), 20);
        x.end(7);
        due("seven", x.look(0), 7);
        x.map(9);
        due("none behind map()", x.look(0), 0);
    }

    private static void lookEdges() {
        CHECK.sentence("Promise 25", "1 EDGES of all TREES, 2 of all MAPS.");
        PlaneMaps x = new PlaneMaps();
        due("none of trees", x.look(1), 0);
        due("none of maps", x.look(2), 0);
        for (int slot = 0; slot < 3; slot++) {
            x.tree(slot, 8, slot);
            due("edges of trees", x.look(1), 8 * slot + 8);
        }
        for (int slot = 0; slot < 4; slot++) {
            x.turn(0, slot, 0);
            due("edges of maps", x.look(2), 16 * slot + 16);
        }
        due("of trees still", x.look(1), 24);
        x.tree(1, 0, 0);
        x.map(2);
        due("fewer trees'", x.look(1), 16);
        due("fewer maps'", x.look(2), 48);
    }

    private static void lookNone() {
        CHECK.sentence("Promise 25", "NONE for another what.");
        for (int what : Samples.never(-1, 3)) {
            CHECK.dueRefused("look " + what, NONE, x -> x.look(what));
        }
    }
}
