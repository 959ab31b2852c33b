/** Promise by promise, worked out by hand from the document: ordinary inputs, edges, wrong inputs. */
public final class PromisesTest {
    private static final int NONE = PlaneMaps.NONE;
    private static final int LEAST = Integer.MIN_VALUE;
    private static final int MOST = Integer.MAX_VALUE;
    private static final String TRIANGLE = Samples.TRIANGLE;
    private static final String LOOP = Samples.LOOP;
    private static final String EDGE = Samples.EDGE;
    private static final String PATH = Samples.PATH;
    private static final String CYCLE_4 = Samples.CYCLE_4;

    private static final Check CHECK = new Check("promises");

    public static void main(String[] args) {
        newObject();
        feedAndEnd();
        mapAndFault();
        faultsOfSigns();
        faultsOfNumbers();
        faultsOfWholes();
        count();
        trees();
        treeAndRank();
        shape();
        turn();
        back();
        halve();
        redouble();
        of();
        dart();
        degree();
        distanceAndRing();
        code();
        alike();
        rootings();
        change();
        changeWithout();
        shown();
        look();
        CHECK.end();
    }

    private static void due(String what, long got, long want) {
        CHECK.due(what, got, want);
    }

    private static void due(String what, boolean got, boolean want) {
        CHECK.due(what, got, want);
    }

    private static PlaneMaps with(String text) {
        return CHECK.with(text);
    }

    private static void dueText(String what, PlaneMaps x, int map, String want) {
        CHECK.dueText(what, x, map, want);
    }

    private static void dueFault(String text, int... want) {
        CHECK.dueFault(text, want);
    }

    // Promise 1
    private static void newObject() {
        PlaneMaps x = new PlaneMaps();
        for (int slot = 0; slot < 4; slot++) {
            due("new of 0", x.of(slot, 0), 0);
            due("new of 1", x.of(slot, 1), 1);
            due("new of 2", x.of(slot, 2), 1);
            due("new of 3", x.of(slot, 3), 0);
        }
        for (int slot = 0; slot < 3; slot++) {
            due("new rank", x.rank(slot), 0);
            due("new tree's edges", x.shape(slot, 0, 0), 0);
            due("new tree's heir", x.shape(slot, 4, 0), NONE);
            due("new tree's corner", x.shape(slot, 5, 0), 0);
            due("new tree's parent", x.shape(slot, 3, 0), NONE);
        }
        due("new tape", x.look(0), 0);
        due("new fault", x.fault(0), 0);
        for (int what = 1; what <= 4; what++) {
            due("new fault " + what, x.fault(what), NONE);
        }
        due("NONE", NONE, -1);
    }

    // Promises 2 and 3
    private static void feedAndEnd() {
        PlaneMaps x = new PlaneMaps();
        due("end of an empty tape", x.end(0), true);
        due("end beyond an empty tape", x.end(1), false);
        for (int i = 1; i <= 15; i++) {
            due("feed " + i, x.feed(-1, 0, LEAST, MOST, 7), 20 * i);
        }
        due("feed beyond 300", x.feed(0, 0, 0, 0, 0), NONE);
        due("nothing came", x.look(0), 300);
        due("end 301", x.end(301), false);
        due("end below 0", x.end(-1), false);
        due("end far below 0", x.end(LEAST), false);
        due("end far beyond", x.end(MOST), false);
        due("tape as before", x.look(0), 300);
        due("end 281", x.end(281), true);
        due("feed to 301", x.feed(0, 0, 0, 0, 0), NONE);
        due("end 280", x.end(280), true);
        due("feed to 300", x.feed(0, 0, 0, 0, 0), 300);
        due("end 5", x.end(5), true);
        due("end 6 then", x.end(6), false);
        due("feed behind", x.feed(0, 0, 0, 0, 0), 25);
        PlaneMaps y = new PlaneMaps();
        // "(0 1" ")   " and blanks: the highest byte first
        due("feed a loop", y.feed(0x28302031, 0x29202020, 0x20202020, 0x0a0a0a0a, 0x20202020), 20);
        due("read a loop", y.map(2), 1);
        dueText("loop", y, 2, LOOP);
        y.feed(0x80ffffff, 0, 0, 0, 0);
        due("a byte above 127 can't stand there", y.map(0), NONE);
        due("at it", y.fault(1), 0);
    }

    // Promises 4 and 5
    private static void mapAndFault() {
        PlaneMaps x = with(TRIANGLE);
        due("triangle's edges", x.of(0, 0), 4);
        due("tape is empty behind map", x.look(0), 0);
        due("change the root", x.change(0, 4, 5, 0), 4);
        due("read again", Check.read(x, TRIANGLE, 0), 4);
        due("root is 0 then", x.of(0, 3), 0);
        due("a fault", Check.read(x, "(0 0)", 0), NONE);
        due("fault 3", x.fault(0), 3);
        dueText("the slot stays", x, 0, TRIANGLE);
        due("tape is empty behind a fault", x.look(0), 0);
        Check.put(x, "(0 0)");
        due("no such slot", x.map(4), -2);
        due("no fault then", x.fault(0), 0);
        for (int what = 1; what <= 4; what++) {
            due("nothing of a fault", x.fault(what), NONE);
        }
        due("tape is empty then, too", x.look(0), 0);
        due("slot below 0", x.map(-1), -2);
        due("slot far below 0", x.map(LEAST), -2);
        due("empty text", x.map(0), 0);
        due("without edges", x.of(0, 1), 1);
        due("blanks alone", Check.read(x, " \n ", 0), 0);
        due("blanks everywhere", Check.read(x, "\n( 0\n )\n\n( 1 ) ", 0), 1);
        due("no fault", x.fault(0), 0);
        due("no place", x.fault(1), NONE);
        due("two digits of one dart", Check.read(x, "(00)(01)", 0), 1);
        dueText("told by one digit each", x, 0, EDGE);
        due("fault of another what", x.fault(5), NONE);
        due("fault of another what", x.fault(-1), NONE);
        due("fault of another what", x.fault(LEAST), NONE);
        due("sixteen edges", Check.read(x, Samples.star(16), 3), 16);
        due("seventeen vertices", x.of(3, 1), 17);
        dueFault("(0 0)", 3, 3, 0, 0, 1);
        due("a text then", Check.read(x, EDGE, 1), 1);
        due("no fault behind a fault", x.fault(0), 0);
    }

    private static void faultsOfSigns() {
        dueFault("0", 1, 0, NONE, NONE, NONE);
        dueFault(")", 1, 0, NONE, NONE, NONE);
        dueFault(" x", 1, 1, NONE, NONE, NONE);
        dueFault("(", 1, 1, NONE, NONE, NONE);
        dueFault("( ", 1, 2, NONE, NONE, NONE);
        dueFault("()", 1, 1, NONE, NONE, NONE);
        dueFault("((", 1, 1, NONE, NONE, NONE);
        dueFault("(0", 1, 2, NONE, NONE, NONE);
        dueFault("(0 ", 1, 3, NONE, NONE, NONE);
        dueFault("(0(", 1, 2, NONE, NONE, NONE);
        dueFault("(0 (", 1, 3, NONE, NONE, NONE);
        dueFault("(0)(1)1", 1, 6, NONE, NONE, NONE);
        dueFault("(0))", 1, 3, NONE, NONE, NONE);
        dueFault("(0)(1)\t", 1, 6, NONE, NONE, NONE);
        dueFault("(0)(1)\0", 1, 6, NONE, NONE, NONE);
        dueFault("(-1)", 1, 1, NONE, NONE, NONE);
        dueFault("(000)", 1, 3, NONE, NONE, NONE);
        // a third digit is ahead of a dart above 31 and of one told already
        dueFault("(990)", 1, 3, NONE, NONE, NONE);
        dueFault("(0)(000)", 1, 6, NONE, NONE, NONE);
    }

    private static void faultsOfNumbers() {
        dueFault("(32)", 2, 1, 0, 0, 0);
        dueFault("(31 32)", 2, 4, 0, 0, 1);
        dueFault("(99", 2, 1, 0, 0, 0);
        dueFault("(99x", 2, 1, 0, 0, 0);
        dueFault("(1)( 2 3 44(", 2, 9, 1, 3, 2);
        dueFault("(0 0", 3, 3, 0, 0, 1);
        dueFault("(0 00)", 3, 3, 0, 0, 1);
        dueFault("(0)\n (1 2) ( 3 2)", 3, 15, 2, 11, 1);
        dueFault("(0)(1)(0)", 3, 7, 2, 6, 0);
        dueFault("(0 0 99)", 3, 3, 0, 0, 1);
        dueFault("(0 99 0)", 2, 3, 0, 0, 1);
    }

    private static void faultsOfWholes() {
        dueFault("(0)", 4, 3, NONE, NONE, NONE);
        dueFault("(0)(2) ", 4, 7, NONE, NONE, NONE);
        dueFault("(1)", 4, 3, NONE, NONE, NONE);
        dueFault("(1 2)", 4, 5, NONE, NONE, NONE);
        dueFault("(0 1)(2 4)", 4, 10, NONE, NONE, NONE);
        dueFault("(30 31)", 4, 7, NONE, NONE, NONE);
        dueFault("(0 1 2)", 4, 7, NONE, NONE, NONE);
        dueFault("(0 1)(2 3)", 5, 10, NONE, NONE, NONE);
        dueFault("(0)(1)(2)(3)", 5, 12, NONE, NONE, NONE);
        dueFault("(0 2 1 3)", 6, 9, NONE, NONE, NONE);
        // not plane and not connected: 5 is ahead of 6
        dueFault("(0 2 1 3)(4 5)", 5, 14, NONE, NONE, NONE);
        StringBuilder apart = new StringBuilder();
        for (int d = 0; d < 32; d++) {
            apart.append('(').append(d).append(')');
        }
        dueFault(apart.toString(), 5, apart.length(), NONE, NONE, NONE);
    }

    // Promise 6
    private static void count() {
        PlaneMaps x = new PlaneMaps();
        long[] two = {0, 2, 2, 3, 2};
        for (int k = 0; k < two.length; k++) {
            due("count 2 " + k, x.count(2, k), two[k]);
        }
        due("count 14 in all first", new PlaneMaps().count(14, NONE), 1598970451545L);
        due("count 14, 28", x.count(14, 28), 2674440);
        due("count 13, 28", x.count(13, 28), 0);
        due("count 0, 0", x.count(0, 0), 1);
        due("count 0, 28", x.count(0, 28), 0);
        due("count 0 in all", x.count(0, NONE), 1);
        due("count 14, 0", x.count(14, 0), 0);
        int[][] wrong = {{15, 1}, {-1, 1}, {3, 29}, {3, -2}, {LEAST, 0}, {MOST, NONE}, {3, LEAST}, {3, MOST}, {-1, NONE}};
        for (int[] pair : wrong) {
            due("count " + pair[0] + " " + pair[1], x.count(pair[0], pair[1]), NONE);
        }
    }

    // Promise 7
    private static void trees() {
        PlaneMaps x = new PlaneMaps();
        long[] all = {1, 3, 18, 135, 1134, 10206, 96228, 938223, 9382230};
        for (int n = 0; n < all.length; n++) {
            due("trees " + n, x.trees(n), all[n]);
        }
        due("trees -1", x.trees(-1), NONE);
        due("trees 9", x.trees(9), NONE);
        due("trees least", x.trees(LEAST), NONE);
        due("trees most", x.trees(MOST), NONE);
    }

    // Promises 8 and 9
    private static void treeAndRank() {
        PlaneMaps x = new PlaneMaps();
        for (int n = 0; n <= 8; n++) {
            for (long number : new long[] {0, 1, x.trees(n) / 2, x.trees(n) - 2, x.trees(n) - 1}) {
                boolean is = number >= 0 && number < x.trees(n);
                due("tree " + n + " " + number, x.tree(1, n, number), is);
                if (is) {
                    due("rank " + n + " " + number, x.rank(1), number);
                }
            }
        }
        x.tree(2, 3, 100);
        due("a number too great", x.tree(2, 3, 135), false);
        due("a number below 0", x.tree(2, 3, -1), false);
        due("a number far above", x.tree(2, 3, (1L << 32) + 5), false);
        due("least number", x.tree(2, 3, Long.MIN_VALUE), false);
        due("most number", x.tree(2, 3, Long.MAX_VALUE), false);
        due("edges too many", x.tree(2, 9, 0), false);
        due("edges below 0", x.tree(2, -1, 0), false);
        due("least edges", x.tree(2, LEAST, -1), false);
        due("slot too great", x.tree(3, 3, 0), false);
        due("slot below 0", x.tree(-1, 3, 0), false);
        due("the slot stays", x.rank(2), 100);
        due("rank of no slot", x.rank(3), NONE);
        due("rank of no slot", x.rank(-1), NONE);
        due("rank of no slot", x.rank(LEAST), NONE);
    }

    // Promise 10: shape 101100 is the second one of three edges, behind 101010
    private static void shape() {
        PlaneMaps x = new PlaneMaps();
        due("tree", x.tree(0, 3, 27 + 2 * 9 + 0 * 3 + 1), true);
        int[][] want = {
            {3, 3, 3},
            {1, 0, 1, 1, 0, 0},
            {0, 1, -1, -1},
            {NONE, 0, 0, 2},
            {3, 2, 3, NONE, NONE, NONE},
            {0, 1, 0, 2, 3, 2},
        };
        for (int what = 0; what <= 5; what++) {
            for (int i = 0; i < want[what].length; i++) {
                due("shape " + what + " " + i, x.shape(0, what, i), want[what][i]);
            }
            if (what > 0) {
                due("shape " + what + " beyond", x.shape(0, what, want[what].length), -100);
                due("shape " + what + " below", x.shape(0, what, -1), -100);
                due("shape " + what + " far below", x.shape(0, what, LEAST), -100);
                due("shape " + what + " far beyond", x.shape(0, what, MOST), -100);
            }
        }
        due("edges whatever i is", x.shape(0, 0, -7), 3);
        due("another what", x.shape(0, 6, 0), -100);
        due("another what", x.shape(0, -1, 0), -100);
        due("no slot", x.shape(3, 0, 0), -100);
        due("no slot", x.shape(-1, 0, 0), -100);
        due("no step of no edges", x.shape(1, 1, 0), -100);
        due("label of the root alone", x.shape(1, 2, 0), 0);
        due("no other label", x.shape(1, 2, 1), -100);
        due("one corner", x.shape(1, 5, 0), 0);
        due("no other corner", x.shape(1, 5, 1), -100);
        due("its heir is the point", x.shape(1, 4, 0), NONE);
        due("no other heir", x.shape(1, 4, 1), -100);
    }

    // Promise 11
    private static void turn() {
        PlaneMaps x = new PlaneMaps();
        due("no edges turned", x.turn(0, 1, 0), 1);
        dueText("no edges turned", x, 1, EDGE);
        due("with sign 1", x.turn(0, 1, 1), 1);
        due("root is 1", x.of(1, 3), 1);
        // labels 0, 1, -1, -1 as in shape(): heirs 3 2 3 - - -
        x.tree(0, 3, 46);
        due("turned", x.turn(0, 1, 0), 3);
        dueText("turned", x, 1, "(0 3 4)(1 6 10 5)(2)(7 11 9)(8)");
        due("root is 0", x.of(1, 3), 0);
        due("faces of four sides", x.of(1, 6), 1);
        int[][] wrong = {{3, 1, 0}, {-1, 1, 0}, {0, 4, 0}, {0, -1, 0}, {0, 1, 2}, {0, 1, -1}, {LEAST, MOST, 0}, {0, 1, LEAST}};
        for (int[] row : wrong) {
            due("turn of what there is not", x.turn(row[0], row[1], row[2]), NONE);
        }
        due("the slot stays", x.of(1, 0), 6);
    }

    // Promise 12
    private static void back() {
        PlaneMaps x = new PlaneMaps();
        x.tree(0, 3, 46);
        due("point", x.turn(0, 1, 1), 3);
        due("sign", x.back(1, 3, 2), 1);
        due("the same tree", x.rank(2), 46);
        // from the far end of a path: the root is the other end or stands between
        Check.read(x, PATH, 0);
        due("sign from vertex 2", x.back(0, 2, 1), 0);
        due("one child nearer", x.rank(1), 0);
        due("sign from vertex 0", x.back(0, 0, 1), 1);
        due("one child farther", x.rank(1), 2);
        due("sign from vertex 1", x.back(0, 1, 1), 0);
        due("one child as far", x.rank(1), 1);
        Check.read(x, EDGE, 0);
        due("one edge, from 1", x.back(0, 1, 1), 0);
        due("no edges then", x.shape(1, 0, 0), 0);
        due("one edge, from 0", x.back(0, 0, 1), 1);
        x.tree(1, 2, 7);
        int[][] wrong = {{0, 2, 1}, {0, -1, 1}, {0, 0, 3}, {0, 0, -1}, {4, 0, 1}, {-1, 0, 1}, {0, MOST, 1}, {0, 0, LEAST}};
        for (int[] row : wrong) {
            due("back from what there is not", x.back(row[0], row[1], row[2]), NONE);
        }
        due("without edges it can't be", x.back(2, 0, 1), NONE);
        for (String text : new String[] {LOOP, TRIANGLE, "(0 1 2 3)", "(0 3)(1 2)"}) {
            Check.read(x, text, 3);
            due("it can't be: " + text, x.back(3, 0, 1), NONE);
        }
        due("the slot stays", x.rank(1), 7);
    }

    // Promise 13: faces 0 2 4 6 and 1 7 5 3; names of darts 0, 4, 3, 7 are 0, 1, 2, 3
    private static void halve() {
        PlaneMaps x = with(CYCLE_4);
        due("halved", x.halve(0, 1), 2);
        dueText("halved", x, 1, "(0 3)(1 2)");
        due("its root stands ahead of dart 0", x.of(1, 3), 0);
        x.change(0, 4, 3, 2);
        due("halved from the other side", x.halve(2, 2), 2);
        due("its root: dart 3 is the lesser one of its face", x.of(2, 3), 2);
        due("from a vertex of the other sort", Check.read(x, CYCLE_4, 0), 4);
        x.change(0, 4, 1, 0);
        due("halved into the same slot", x.halve(0, 0), 2);
        due("root in the face of dart 1", x.of(0, 3), 2);
        Check.read(x, EDGE, 3);
        due("one edge halved", x.halve(3, 3), 0);
        due("one vertex", x.of(3, 1), 1);
        due("without edges it can't be", x.halve(3, 3), NONE);
        Check.read(x, LOOP, 3);
        due("a loop can't be", x.halve(3, 1), NONE);
        Check.read(x, TRIANGLE, 3);
        due("a triangle can't be", x.halve(3, 1), NONE);
        Check.read(x, CYCLE_4, 0);
        int[][] wrong = {{0, 4}, {0, -1}, {4, 0}, {-1, 0}, {LEAST, MOST}, {0, LEAST}};
        for (int[] row : wrong) {
            due("halve of what there is not", x.halve(row[0], row[1]), NONE);
        }
        due("the slot stays", x.of(0, 0), 4);
        due("the other one, too", x.of(3, 0), 4);
    }

    // Promise 14
    private static void redouble() {
        PlaneMaps x = with("(0 1)");
        due("a loop doubled", x.redouble(0, 1), 2);
        dueText("a loop doubled", x, 1, "(0 2)(1)(3)");
        due("its root", x.of(1, 3), 2);
        due("doubled into the same slot", x.redouble(1, 1), 4);
        due("and again", x.redouble(1, 1), 8);
        due("and again", x.redouble(1, 1), 16);
        due("more can't be", x.redouble(1, 2), NONE);
        due("four sides", x.of(1, 6), 1);
        due("without edges", x.redouble(3, 3), 1);
        dueText("one edge", x, 3, EDGE);
        due("its root is 0", x.of(3, 3), 0);
        Check.read(x, TRIANGLE, 0);
        due("triangle doubled", x.redouble(0, 2), 8);
        dueText("triangle doubled", x, 2, "(0 10 12)(1 15 13 9 5)(2 4)(3 7 11)(6 8)(14)");
        due("halved it is alike", x.halve(2, 2) == 4 && x.alike(2, 0, 0) == 1, true);
        int[][] wrong = {{0, 4}, {0, -1}, {4, 0}, {-1, 0}, {LEAST, MOST}};
        for (int[] row : wrong) {
            due("redouble of what there is not", x.redouble(row[0], row[1]), NONE);
        }
        due("nine edges", Check.read(x, "(0 2 4 6 8 10 12 14 16)(1)(3)(5)(7)(9)(11)(13)(15)(17)", 0), 9);
        due("nine edges can't be doubled", x.redouble(0, 1), NONE);
        due("the slot stays", x.of(1, 0), 16);
    }

    // Promise 15
    private static void of() {
        PlaneMaps x = with(TRIANGLE);
        int[] want = {4, 4, 2, 0, 3, 5, 0, 0, 1};
        for (int what = 0; what < want.length; what++) {
            due("triangle of " + what, x.of(0, what), want[what]);
        }
        Check.read(x, CYCLE_4, 1);
        int[] cycle = {4, 4, 2, 0, 2, 4, 1, 1, 0};
        for (int what = 0; what < cycle.length; what++) {
            due("cycle of " + what, x.of(1, what), cycle[what]);
        }
        int[] bare = {0, 1, 1, 0, 0, 0, 0, 1, 0};
        for (int what = 0; what < bare.length; what++) {
            due("bare of " + what, x.of(2, what), bare[what]);
        }
        Check.read(x, LOOP, 3);
        due("a loop can't be parted", x.of(3, 7), 0);
        Check.read(x, EDGE, 3);
        due("one edge can be parted", x.of(3, 7), 1);
        due("one edge has no four sides", x.of(3, 6), 0);
        shrink();
        due("of 9", x.of(0, 9), NONE);
        due("of -1", x.of(0, -1), NONE);
        due("of least", x.of(0, LEAST), NONE);
        due("no slot", x.of(4, 0), NONE);
        due("no slot", x.of(-1, 0), NONE);
    }

    /** Nothing of a greater map that was in the slot, or in one beside it, is seen of a lesser one. */
    private static void shrink() {
        PlaneMaps x = with("(0 2 4 6 8)(1 9 7 5 3)");
        for (int slot = 0; slot < 4; slot++) {
            x.change(0, 0, 0, slot);
        }
        for (int slot = 0; slot < 4; slot++) {
            Check.read(x, EDGE, slot);
            due("greatest degree of a vertex then", x.of(slot, 4), 1);
            due("greatest degree of a face then", x.of(slot, 5), 2);
            due("greatest distance then", x.ring(slot, 0, NONE), 1);
        }
        for (int slot = 0; slot < 4; slot++) {
            x.map(slot);
            due("no degree of a vertex then", x.of(slot, 4), 0);
            due("no degree of a face then", x.of(slot, 5), 0);
            due("degree of the vertex", x.degree(slot, 0, 0), 0);
            due("degree of the face", x.degree(slot, 1, 0), 0);
            due("edges in one face", x.of(slot, 8), 0);
        }
    }

    // Promise 16
    private static void dart() {
        PlaneMaps x = with(TRIANGLE);
        int[][] want = {
            {5, 2, 1, 4, 3, 6, 0, 7},
            {2, 5, 4, 1, 6, 3, 7, 0},
            {0, 1, 1, 2, 2, 0, 0, 3},
            {0, 1, 0, 1, 0, 1, 0, 0},
        };
        for (int what = 0; what < want.length; what++) {
            for (int d = 0; d < 8; d++) {
                due("dart " + d + " " + what, x.dart(0, d, what), want[what][d]);
            }
        }
        int[][] wrong = {{0, 8, 0}, {0, -1, 0}, {0, 0, 4}, {0, 0, -1}, {4, 0, 0}, {-1, 0, 0}, {1, 0, 0}, {1, 0, 2}, {0, MOST, 1}};
        for (int[] row : wrong) {
            due("dart that there is not", x.dart(row[0], row[1], row[2]), NONE);
        }
    }

    // Promise 17
    private static void degree() {
        PlaneMaps x = with(TRIANGLE);
        int[] vertices = {3, 2, 2, 1, NONE};
        int[] faces = {5, 3, NONE};
        for (int k = 0; k < vertices.length; k++) {
            due("degree of vertex " + k, x.degree(0, 0, k), vertices[k]);
        }
        for (int k = 0; k < faces.length; k++) {
            due("degree of face " + k, x.degree(0, 1, k), faces[k]);
        }
        due("bare vertex", x.degree(1, 0, 0), 0);
        due("bare face", x.degree(1, 1, 0), 0);
        int[][] wrong = {{0, 2, 0}, {0, -1, 0}, {0, 0, -1}, {0, 1, -1}, {1, 0, 1}, {1, 1, 1}, {4, 0, 0}, {-1, 0, 0}, {0, 0, MOST}};
        for (int[] row : wrong) {
            due("degree that there is not", x.degree(row[0], row[1], row[2]), NONE);
        }
    }

    // Promises 18 and 19
    private static void distanceAndRing() {
        PlaneMaps x = with(TRIANGLE);
        int[][] want = {{0, 1, 1, 1}, {1, 0, 1, 2}, {1, 1, 0, 2}, {1, 2, 2, 0}};
        for (int v = 0; v < 4; v++) {
            for (int w = 0; w < 4; w++) {
                due("distance " + v + " " + w, x.distance(0, v, w), want[v][w]);
            }
        }
        due("bare distance", x.distance(1, 0, 0), 0);
        int[][] wrong = {{0, 4, 0}, {0, 0, 4}, {0, -1, 0}, {0, 0, -1}, {4, 0, 0}, {-1, 0, 0}, {1, 0, 1}, {0, LEAST, MOST}};
        for (int[] row : wrong) {
            due("distance that there is not", x.distance(row[0], row[1], row[2]), NONE);
        }
        int[] ring = {1, 1, 2, 0, 0};
        for (int d = 0; d < ring.length; d++) {
            due("ring " + d, x.ring(0, 3, d), ring[d]);
        }
        due("ring far off", x.ring(0, 3, MOST), 0);
        due("greatest from 3", x.ring(0, 3, NONE), 2);
        due("greatest from 0", x.ring(0, 0, NONE), 1);
        due("bare ring", x.ring(1, 0, 0), 1);
        due("bare ring", x.ring(1, 0, 1), 0);
        due("bare greatest", x.ring(1, 0, NONE), 0);
        int[][] none = {{0, 4, 0}, {0, -1, 0}, {0, 0, -2}, {0, 0, LEAST}, {4, 0, 0}, {-1, 0, 0}, {1, 1, 0}};
        for (int[] row : none) {
            due("ring that there is not", x.ring(row[0], row[1], row[2]), NONE);
        }
    }

    // Promise 20: from 0 on the names are 0:0 1:1 5:2 4:3 6:4 7:5 2:6 3:7
    private static void code() {
        PlaneMaps x = with(TRIANGLE);
        int[] want = {2, 6, 4, 7, 0, 5, 1, 3, NONE};
        for (int i = 0; i < want.length; i++) {
            due("code " + i, x.code(0, i), want[i]);
        }
        due("code -1", x.code(0, -1), NONE);
        due("code of no slot", x.code(4, 0), NONE);
        due("code of no slot", x.code(-1, 0), NONE);
        due("bare code", x.code(1, 0), NONE);
        // from 7 on: 7:0 6:1 0:2 1:3 5:4 4:5 2:6 3:7
        x.change(0, 4, 7, 0);
        int[] leaf = {0, 2, 4, 6, 1, 7, 3, 5};
        for (int i = 0; i < leaf.length; i++) {
            due("code from 7 " + i, x.code(0, i), leaf[i]);
        }
    }

    // Promise 21: two leaves of unlike lengths beside each other on a cycle tell a map from its mirrored one
    private static void alike() {
        PlaneMaps x = with("(0 5 6)(1 2 8)(3 4)(7)(9 10)(11)");
        due("edges", x.of(0, 0), 6);
        x.change(0, 1, 0, 1);
        due("mirrored is another one", x.alike(0, 1, 0), 0);
        due("from no dart", x.alike(0, 1, 1), 0);
        due("but mirrored back", x.alike(0, 1, 2), 1);
        due("itself", x.alike(0, 0, 0), 1);
        due("itself from some dart", x.alike(0, 0, 1), 1);
        due("itself is no mirrored one", x.alike(0, 0, 2), 0);
        x.change(0, 4, 9, 2);
        due("another root", x.alike(0, 2, 0), 0);
        due("another root, some dart", x.alike(0, 2, 1), 1);
        due("another root, mirrored", x.alike(1, 2, 2), 1);
        Check.read(x, TRIANGLE, 3);
        for (int how = 0; how <= 2; how++) {
            due("unlike edges", x.alike(0, 3, how), 0);
        }
        PlaneMaps y = new PlaneMaps();
        for (int how = 0; how <= 2; how++) {
            due("without edges", y.alike(0, 3, how), 1);
        }
        int[][] wrong = {{0, 4, 0}, {4, 0, 0}, {-1, 0, 1}, {0, -1, 2}, {0, 0, 3}, {0, 0, -1}, {LEAST, MOST, 0}, {0, 0, LEAST}};
        for (int[] row : wrong) {
            due("alike of what there is not", x.alike(row[0], row[1], row[2]), NONE);
        }
    }

    // Promise 22
    private static void rootings() {
        String[] texts = {"", EDGE, LOOP, PATH, CYCLE_4, TRIANGLE, "(0 2 4)(1)(3)(5)", "(0 1 2 3)"};
        int[] want = {1, 1, 1, 2, 1, 8, 2, 2};
        for (int i = 0; i < texts.length; i++) {
            due("rootings of " + texts[i], with(texts[i]).rootings(0), want[i]);
        }
        PlaneMaps x = new PlaneMaps();
        due("rootings of no slot", x.rootings(4), NONE);
        due("rootings of no slot", x.rootings(-1), NONE);
        due("rootings of no slot", x.rootings(LEAST), NONE);
    }

    // Promise 23
    private static void change() {
        PlaneMaps x = with(TRIANGLE);
        due("root 3", x.change(0, 4, 3, 0), 4);
        due("root 3", x.of(0, 3), 3);
        due("as it is", x.change(0, 0, 99, 1), 4);
        dueText("as it is", x, 1, TRIANGLE);
        due("its root, too", x.of(1, 3), 3);
        due("mirrored", x.change(0, 1, -5, 1), 4);
        dueText("mirrored", x, 1, "(0 6 5)(1 2)(3 4)(7)");
        due("mirrored root", x.of(1, 3), 3);
        due("dual", x.change(0, 2, LEAST, 1), 4);
        dueText("dual", x, 1, "(0 2 4 6 7)(1 5 3)");
        due("dual root", x.of(1, 3), 3);
        due("dual of the dual", x.change(1, 2, 0, 1), 4);
        dueText("dual of the dual", x, 1, TRIANGLE);
        due("by its code", x.change(0, 3, MOST, 1), 4);
        due("root 0 then", x.of(1, 3), 0);
        due("alike", x.alike(0, 1, 0), 1);
        for (int i = 0; i < 8; i++) {
            due("next is the code", x.dart(1, i, 0), x.code(0, i));
        }
        for (int how = 0; how <= 3; how++) {
            due("bare change " + how, x.change(3, how, 0, 2), 0);
        }
        due("bare root", x.change(3, 4, 0, 2), NONE);
        due("bare without", x.change(3, 5, 0, 2), NONE);
        int[][] wrong = {{0, 6, 0, 1}, {0, -1, 0, 1}, {4, 0, 0, 1}, {-1, 0, 0, 1}, {0, 0, 0, 4}, {0, 0, 0, -1},
            {0, 4, 8, 1}, {0, 4, -1, 1}, {0, 5, 8, 1}, {0, 5, -1, 1}, {0, 5, 6, 1}, {0, 5, 7, 1}, {0, LEAST, 0, 1}, {0, 5, MOST, 1}};
        for (int[] row : wrong) {
            due("change that can't be", x.change(row[0], row[1], row[2], row[3]), NONE);
        }
        due("the slot stays", x.of(1, 0), 4);
    }

    private static void changeWithout() {
        PlaneMaps x = with(TRIANGLE);
        due("without 2", x.change(0, 5, 3, 1), 3);
        dueText("without 2", x, 1, "(0 3 4)(1)(2)(5)");
        due("root stays", x.of(1, 3), 0);
        due("without the root's edge", x.change(0, 5, 1, 1), 3);
        dueText("without the root's edge", x, 1, "(0)(1 2)(3 4)(5)");
        due("root is next of it: 5, now 3", x.of(1, 3), 3);
        // the root's other dart stands right behind it: next of that is the root
        Check.read(x, "(0 1 2)(3)", 2);
        due("without a loop", x.change(2, 5, 0, 3), 1);
        dueText("without a loop", x, 3, EDGE);
        due("root is 2, now 0", x.of(3, 3), 0);
        x.change(2, 4, 1, 2);
        due("root 1", x.change(2, 5, 0, 3), 1);
        due("next of 1 is 2, now 0", x.of(3, 3), 0);
        Check.read(x, "(0 1 3 2)", 2);
        x.change(2, 4, 3, 2);
        due("inner loop goes", x.change(2, 5, 2, 2), 1);
        due("3, 2, then 0", x.of(2, 3), 0);
        due("the last edge goes, into the same slot", x.change(2, 5, 1, 2), 0);
        due("root 0", x.of(2, 3), 0);
        due("one vertex", x.of(2, 1), 1);
        due("one face", x.of(2, 2), 1);
    }

    // Promise 24
    private static void shown() {
        PlaneMaps x = new PlaneMaps();
        due("bare text", x.shown(0, NONE), 0);
        due("bare byte", x.shown(0, 0), NONE);
        due("read", Check.read(x, " ( 6 00\n5)(4 3)(7)( 2 1 )", 0), 4);
        dueText("shown", x, 0, TRIANGLE);
        due("behind it", x.shown(0, TRIANGLE.length()), NONE);
        due("far behind it", x.shown(0, MOST), NONE);
        due("below NONE", x.shown(0, -2), NONE);
        due("far below", x.shown(0, LEAST), NONE);
        due("no slot", x.shown(4, NONE), NONE);
        due("no slot", x.shown(-1, 0), NONE);
        String star = "(0 2 4 6 8 10 12 14 16 18 20 22 24 26 28 30)(1)(3)(5)(7)(9)(11)(13)(15)(17)(19)(21)(23)(25)(27)(29)(31)";
        due("sixteen edges", Check.read(x, star, 1), 16);
        dueText("star", x, 1, star);
        due("its root does not matter", x.change(1, 4, 17, 1), 16);
        dueText("star with another root", x, 1, star);
    }

    // Promise 25
    private static void look() {
        PlaneMaps x = new PlaneMaps();
        x.feed(0, 0, 0, 0, 0);
        due("bytes", x.look(0), 20);
        x.tree(0, 3, 5);
        x.tree(2, 8, 5);
        due("edges of trees", x.look(1), 11);
        due("edges of maps", x.look(2), 0);
        x.turn(0, 0, 0);
        x.turn(2, 3, 0);
        due("edges of maps", x.look(2), 22);
        due("look 3", x.look(3), NONE);
        due("look -1", x.look(-1), NONE);
        due("look least", x.look(LEAST), NONE);
    }
}
