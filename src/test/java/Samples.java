import java.util.Arrays;

/** Maps as texts, and an object that has something of all it can hold. */
final class Samples {
    static final String LOOP = "(0 1)";
    static final String EDGE = "(0)(1)";
    static final String PATH = "(0)(1 2)(3)";
    static final String CYCLE_4 = "(0 7)(1 2)(3 4)(5 6)";
    /** A triangle with a leaf at the vertex of dart 0, inside the face of dart 0. */
    static final String TRIANGLE = "(0 5 6)(1 2)(3 4)(7)";
    /** What tree 46 of three edges is turned into: its labels are 0, 1, -1, -1. */
    static final String TURNED_46 = "(0 3 4)(1 6 10 5)(2)(7 11 9)(8)";

    static final int[] NO_TREE_SLOT = {-1, 3, -2, 4, 1 << 30, Integer.MIN_VALUE, Integer.MAX_VALUE};
    static final int[] NO_MAP_SLOT = {-1, 4, -2, 5, 1 << 30, Integer.MIN_VALUE, Integer.MAX_VALUE};
    private static final int[] FAR = {-2, -100, 1000, 1 << 30, Integer.MIN_VALUE, Integer.MAX_VALUE};

    private Samples() {
    }

    /** Arguments that there are never: some that stand right beside those that there are, and others far off. */
    static int[] never(int... beside) {
        int[] all = Arrays.copyOf(beside, beside.length + FAR.length);
        System.arraycopy(FAR, 0, all, beside.length, FAR.length);
        return all;
    }

    /** Edges one behind the other: dart 2 i goes from vertex i to i + 1. */
    static String path(int edges) {
        StringBuilder text = new StringBuilder();
        for (int v = 0; v <= edges && edges > 0; v++) {
            text.append(v == 0 ? "(" : "(" + (2 * v - 1)).append(v > 0 && v < edges ? " " : "");
            text.append(v < edges ? 2 * v + ")" : ")");
        }
        return text.toString();
    }

    /** Edges round a face: dart 2 i goes from vertex i to i + 1, the last one to vertex 0. */
    static String cycle(int edges) {
        StringBuilder text = new StringBuilder("(0 " + (2 * edges - 1) + ")");
        for (int v = 1; v < edges; v++) {
            text.append("(" + (2 * v - 1) + " " + 2 * v + ")");
        }
        return text.toString();
    }

    /** Edges from one vertex, dart 2 i, to leaves. */
    static String star(int edges) {
        StringBuilder text = new StringBuilder(round(0, 2, edges));
        for (int leaf = 0; leaf < edges; leaf++) {
            text.append("(" + (2 * leaf + 1) + ")");
        }
        return text.toString();
    }

    /** Loops at one vertex, beside each other. */
    static String loops(int edges) {
        return round(0, 1, 2 * edges);
    }

    /** Edges between two vertices: faces of two sides. */
    static String pair(int edges) {
        StringBuilder text = new StringBuilder(round(0, 2, edges) + "(1");
        for (int edge = edges - 1; edge > 0; edge--) {
            text.append(" " + (2 * edge + 1));
        }
        return text.append(")").toString();
    }

    private static String round(int first, int step, int darts) {
        StringBuilder text = new StringBuilder("(");
        for (int i = 0; i < darts; i++) {
            text.append(i == 0 ? "" : " ").append(first + step * i);
        }
        return text.append(")").toString();
    }

    /**
     * Trees of 3, 2 and 0 edges; maps of 1 (a loop), 4 (a triangle with a leaf, root 5), 6 (four sides
     * everywhere) and 0 edges; a fault that is kept; 26 bytes on the tape that are a text of one edge.
     */
    static PlaneMaps full() {
        PlaneMaps x = new PlaneMaps();
        x.tree(0, 3, 46);
        x.tree(1, 2, 15);
        x.turn(0, 2, 1);
        Check.read(x, LOOP, 0);
        Check.read(x, TRIANGLE, 1);
        x.change(1, 4, 5, 1);
        Check.read(x, "(0)(1 0)", 3);
        Check.put(x, EDGE + "                    ");
        return x;
    }

    /**
     * An object that held the greatest trees and maps everywhere, in all rows that it works with, too, and
     * has then got none of them: what is left over must not be seen.
     */
    static PlaneMaps used() {
        PlaneMaps x = new PlaneMaps();
        for (int slot = 0; slot < 3; slot++) {
            x.tree(slot, 8, 9382229);
        }
        String[] texts = {star(16), loops(16), pair(16), cycle(16)};
        for (int slot = 0; slot < 4; slot++) {
            Check.read(x, texts[slot], slot);
            x.change(slot, 4, 31, slot);
            x.change(slot, 4, 31, slot);
        }
        for (int slot = 0; slot < 3; slot++) {
            x.tree(slot, 0, 0);
        }
        for (int slot = 0; slot < 4; slot++) {
            x.map(slot);
        }
        return x;
    }

    /** All that can be seen without a change, in some 80 calls. */
    static String state(PlaneMaps x) {
        StringBuilder seen = new StringBuilder("tape " + x.look(0) + " faults");
        for (int what = 0; what <= 4; what++) {
            seen.append(" " + x.fault(what));
        }
        for (int slot = 0; slot < 3; slot++) {
            seen.append(" tree " + x.shape(slot, 0, 0) + " " + x.rank(slot));
        }
        for (int slot = 0; slot < 4; slot++) {
            seen.append(" map " + x.of(slot, 3) + " " + Check.shown(x, slot));
        }
        return seen.toString();
    }
}
