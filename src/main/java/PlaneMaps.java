import java.util.Arrays;

/**
 * Rooted maps on the plane and labelled trees, as DOC.md promises them.
 *
 * All rows are made in constructors and used again, so that a call makes no object at all. A map is
 * always made in the draft, which then changes places with the one in the slot: so a call may read
 * and write the same slot, and a call that is refused leaves every slot as it was.
 */
public final class PlaneMaps {
    public static final int NONE = -1;

    private static final int NO_SLOT = -2;
    private static final int NO_SHAPE = -100;

    private static final int TREE_SLOTS = 3;
    private static final int MAP_SLOTS = 4;
    private static final int TAPE_BYTES = 300;
    private static final int FEED_BYTES = 20;

    private static final int MOST_TREE_EDGES = 8;
    private static final int MOST_STEPS = 2 * MOST_TREE_EDGES;
    private static final int MOST_DOUBLED_EDGES = 8;
    private static final int MOST_DARTS = 32;
    private static final int MOST_COUNT_EDGES = 14;
    private static final int MOST_COUNT_DEGREE = 2 * MOST_COUNT_EDGES;
    /** Two digits and a sign behind them for each dart, and one sign ahead of each round. */
    private static final int MOST_TEXT = 4 * MOST_DARTS;

    private static final int BLANK = 32;
    private static final int LINE_END = 10;
    private static final int OPEN = 40;
    private static final int CLOSE = 41;
    private static final int ZERO = 48;

    private final int[] tape = new int[TAPE_BYTES];
    private int tapeLength = 0;

    private final Tree[] treeSlots = new Tree[TREE_SLOTS];
    private final RootedMap[] mapSlots = new RootedMap[MAP_SLOTS];
    private RootedMap draft = new RootedMap();

    private final Reader reader = new Reader();
    private final TextWriter writer = new TextWriter();
    private final Counts counts = new Counts();
    private final Shapes shapes = new Shapes();
    private final Distances distances = new Distances();
    private final RoundMaker rounds = new RoundMaker();
    private final Namer namer = new Namer();
    private final int[] oneCode = new int[MOST_DARTS];
    private final int[] otherCode = new int[MOST_DARTS];
    /** For each dart or face one number that a single call needs; nothing is kept in it between calls. */
    private final int[] marks = new int[MOST_DARTS];

    public PlaneMaps() {
        for (int i = 0; i < TREE_SLOTS; i++) {
            treeSlots[i] = new Tree();
        }
        for (int i = 0; i < MAP_SLOTS; i++) {
            mapSlots[i] = new RootedMap();
        }
    }

    // ---- the tape and its text

    public int feed(int a, int b, int c, int d, int e) {
        if (tapeLength + FEED_BYTES > TAPE_BYTES) {
            return NONE;
        }
        putNumberOnTape(a);
        putNumberOnTape(b);
        putNumberOnTape(c);
        putNumberOnTape(d);
        putNumberOnTape(e);
        return tapeLength;
    }

    private void putNumberOnTape(int number) {
        for (int shift = 24; shift >= 0; shift -= 8) {
            if (tapeLength < TAPE_BYTES) {
                tape[tapeLength] = (number >>> shift) & 255;
                tapeLength++;
            }
        }
    }

    public boolean end(int n) {
        if (n < 0 || n > tapeLength) {
            return false;
        }
        tapeLength = n;
        return true;
    }

    public int map(int slot) {
        int length = tapeLength;
        tapeLength = 0;
        reader.clear();
        if (noMap(slot)) {
            return NO_SLOT;
        }
        if (!reader.read(tape, length)) {
            return NONE;
        }
        reader.copyTo(draft);
        draft.numberRounds();
        int fault = faultOfDraft();
        if (fault != 0) {
            reader.refuse(fault, length);
            return NONE;
        }
        return keepDraft(slot);
    }

    private int faultOfDraft() {
        distances.measure(draft, 0);
        if (distances.reached < draft.vertices) {
            return Reader.NOT_CONNECTED;
        }
        return draft.vertices + draft.faces == draft.edges + 2 ? 0 : Reader.NOT_PLANE;
    }

    public int fault(int what) {
        switch (what) {
            case 0:
                return reader.fault;
            case 1:
                return reader.faultPlace;
            case 2:
                return reader.faultRound;
            case 3:
                return reader.faultRoundPlace;
            case 4:
                return reader.faultDart;
            default:
                return NONE;
        }
    }

    // ---- how many there are

    public long count(int n, int k) {
        if (n < 0 || n > MOST_COUNT_EDGES || k < NONE || k > MOST_COUNT_DEGREE) {
            return NONE;
        }
        return k == NONE ? counts.ofAll(n) : counts.ofOne(n, k);
    }

    public long trees(int n) {
        if (n < 0 || n > MOST_TREE_EDGES) {
            return NONE;
        }
        long number = shapes.howMany(n);
        for (int v = 0; v < n; v++) {
            number *= 3;
        }
        return number;
    }

    // ---- trees

    private static boolean noTree(int slot) {
        return slot < 0 || slot >= TREE_SLOTS;
    }

    public boolean tree(int slot, int n, long number) {
        if (noTree(slot) || number < 0 || number >= trees(n)) {
            return false;
        }
        treeSlots[slot].becomeNumber(n, number, shapes);
        return true;
    }

    public long rank(int slot) {
        return noTree(slot) ? NONE : treeSlots[slot].number(shapes);
    }

    public int shape(int slot, int what, int i) {
        if (noTree(slot)) {
            return NO_SHAPE;
        }
        Tree t = treeSlots[slot];
        switch (what) {
            case 0:
                return t.edges;
            case 1:
                return shapeEntry(t.steps, i, 2 * t.edges);
            case 2:
                return shapeEntry(t.labels, i, t.edges + 1);
            case 3:
                return shapeEntry(t.parents, i, t.edges + 1);
            case 4:
                return shapeEntry(t.heirs, i, t.corners());
            case 5:
                return shapeEntry(t.vertexAt, i, t.corners());
            default:
                return NO_SHAPE;
        }
    }

    private static int shapeEntry(int[] row, int i, int length) {
        return i < 0 || i >= length || i >= row.length ? NO_SHAPE : row[i];
    }

    // ---- trees into maps, and back

    public int turn(int tree, int map, int sign) {
        if (noTree(tree) || noMap(map) || sign < 0 || sign > 1) {
            return NONE;
        }
        Tree t = treeSlots[tree];
        draft.edges = t.corners();
        draft.root = sign;
        for (int v = 0; v <= t.edges; v++) {
            makeRoundOfVertex(t, v);
        }
        int pointDart = makeRoundOfPoint(t);
        finishDraft(map);
        return mapSlots[map].vertexOf[pointDart];
    }

    private void makeRoundOfVertex(Tree t, int vertex) {
        rounds.begin();
        for (int c = 0; c < t.corners(); c++) {
            if (t.vertexAt[c] == vertex) {
                addDartsToHeir(t, c);
                rounds.add(2 * c, draft.next);
            }
        }
        rounds.close(draft.next);
    }

    private void addDartsToHeir(Tree t, int heir) {
        int corners = t.corners();
        int c = heir;
        for (int back = 1; back < corners; back++) {
            c = c == 0 ? corners - 1 : c - 1;
            if (t.heirs[c] == heir) {
                rounds.add(2 * c + 1, draft.next);
            }
        }
    }

    /** Answers one of the point's darts; there is one, as corners of the least label have no heir. */
    private int makeRoundOfPoint(Tree t) {
        int pointDart = 1;
        rounds.begin();
        for (int c = t.corners() - 1; c >= 0; c--) {
            if (t.heirs[c] == NONE) {
                pointDart = 2 * c + 1;
                rounds.add(pointDart, draft.next);
            }
        }
        rounds.close(draft.next);
        return pointDart;
    }

    public int back(int map, int vertex, int tree) {
        if (noVertex(map, vertex) || noTree(tree) || !mapSlots[map].hasFourSidesOrOneEdge()) {
            return NONE;
        }
        RootedMap m = mapSlots[map];
        distances.measure(m, vertex);
        int sign = goesDown(m, m.root) ? 0 : 1;
        walkTree(m, m.root ^ sign, treeSlots[tree]);
        return sign;
    }

    private boolean goesDown(RootedMap m, int dart) {
        return distances.row[m.vertexOf[dart]] > distances.row[m.vertexOf[dart ^ 1]];
    }

    /**
     * Goes round the tree. Behind each dart that goes down stands one end of a tree's edge, so such
     * darts are the tree's corners; each face holds one edge, met first on the way up.
     */
    private void walkTree(RootedMap m, int rootDart, Tree t) {
        int edges = m.edges / 2;
        int rootDistance = distances.row[m.vertexOf[rootDart]];
        int corner = rootDart;
        int last = 0;
        Arrays.fill(marks, 0);
        t.edges = edges;
        for (int i = 0; i < 2 * edges; i++) {
            int face = m.faceOf[corner ^ 1];
            int across = otherEnd(m, corner);
            t.steps[i] = marks[face] == 0 ? 1 : 0;
            if (marks[face] == 0 && last < edges) {
                last++;
                t.labels[last] = distances.row[m.vertexOf[across]] - rootDistance;
            }
            marks[face] = 1;
            corner = nextDown(m, across);
        }
        t.placeCorners();
        t.findHeirs();
    }

    /** The dart behind which the other end of the edge that stands behind a dart is. */
    private int otherEnd(RootedMap m, int dart) {
        int other = m.follow[dart ^ 1];
        for (int k = 0; k < 4 && goesDown(m, other); k++) {
            other = m.follow[other];
        }
        return other ^ 1;
    }

    private int nextDown(RootedMap m, int dart) {
        int other = m.next[dart];
        for (int k = 0; k < MOST_DARTS && !goesDown(m, other); k++) {
            other = m.next[other];
        }
        return other;
    }

    public int halve(int map, int into) {
        if (noMap(map) || noMap(into) || !mapSlots[map].hasFourSidesOrOneEdge()) {
            return NONE;
        }
        RootedMap m = mapSlots[map];
        distances.measure(m, m.vertexOf[m.root]);
        nameHalvedDarts(m);
        draft.edges = m.edges / 2;
        draft.root = draft.edges == 0 ? 0 : marks[m.root];
        for (int d = 0; d < m.darts() && draft.edges > 0; d++) {
            if (startsEven(m, d)) {
                draft.next[marks[d]] = marks[m.next[d]];
            }
        }
        return finishDraft(into);
    }

    private boolean startsEven(RootedMap m, int dart) {
        return (distances.row[m.vertexOf[dart]] & 1) == 0;
    }

    /** A face has two corners at even vertices, each ahead of a dart of its own: the lesser is first. */
    private void nameHalvedDarts(RootedMap m) {
        Arrays.fill(marks, 0);
        for (int face = 0; face < m.faces; face++) {
            int name = 2 * face;
            for (int d = 0; d < m.darts(); d++) {
                if (m.faceOf[d] == face && startsEven(m, d)) {
                    marks[d] = name;
                    name = 2 * face + 1;
                }
            }
        }
    }

    public int redouble(int map, int into) {
        if (noMap(map) || noMap(into) || mapSlots[map].edges > MOST_DOUBLED_EDGES) {
            return NONE;
        }
        RootedMap m = mapSlots[map];
        if (m.edges == 0) {
            draft.becomeOneEdge();
            return finishDraft(into);
        }
        draft.edges = m.darts();
        draft.root = 2 * m.next[m.root];
        for (int d = 0; d < m.darts(); d++) {
            draft.next[2 * d] = 2 * m.next[d];
            draft.next[2 * m.follow[d] + 1] = 2 * d + 1;
        }
        return finishDraft(into);
    }

    // ---- what a map is like

    private static boolean noMap(int slot) {
        return slot < 0 || slot >= MAP_SLOTS;
    }

    private boolean noVertex(int slot, int vertex) {
        return noMap(slot) || vertex < 0 || vertex >= mapSlots[slot].vertices;
    }

    private boolean noDart(int slot, int d) {
        return noMap(slot) || d < 0 || d >= mapSlots[slot].darts();
    }

    public int of(int map, int what) {
        if (noMap(map)) {
            return NONE;
        }
        RootedMap m = mapSlots[map];
        switch (what) {
            case 0:
                return m.edges;
            case 1:
                return m.vertices;
            case 2:
                return m.faces;
            case 3:
                return m.root;
            case 4:
                return greatest(m.vertexDegrees, m.vertices);
            case 5:
                return greatest(m.faceDegrees, m.faces);
            case 6:
                return m.hasFourSides() ? 1 : 0;
            case 7:
                return hasTwoSorts(m) ? 1 : 0;
            case 8:
                return m.edgesInOneFace();
            default:
                return NONE;
        }
    }

    private static int greatest(int[] row, int length) {
        int most = 0;
        for (int i = 0; i < length && i < row.length; i++) {
            most = Math.max(most, row[i]);
        }
        return most;
    }

    private boolean hasTwoSorts(RootedMap m) {
        distances.measure(m, 0);
        for (int d = 0; d < m.darts(); d += 2) {
            if (startsEven(m, d) == startsEven(m, d + 1)) {
                return false;
            }
        }
        return true;
    }

    public int dart(int map, int d, int what) {
        if (noDart(map, d)) {
            return NONE;
        }
        RootedMap m = mapSlots[map];
        switch (what) {
            case 0:
                return m.next[d];
            case 1:
                return m.follow[d];
            case 2:
                return m.vertexOf[d];
            case 3:
                return m.faceOf[d];
            default:
                return NONE;
        }
    }

    public int degree(int map, int of, int k) {
        if (noMap(map) || k < 0) {
            return NONE;
        }
        RootedMap m = mapSlots[map];
        if (of == 0 && k < m.vertices) {
            return m.vertexDegrees[k];
        }
        return of == 1 && k < m.faces ? m.faceDegrees[k] : NONE;
    }

    public int distance(int map, int vertex, int other) {
        if (noVertex(map, vertex) || noVertex(map, other)) {
            return NONE;
        }
        distances.measure(mapSlots[map], vertex);
        return distances.row[other];
    }

    public int ring(int map, int vertex, int d) {
        if (noVertex(map, vertex) || d < NONE) {
            return NONE;
        }
        int vertices = mapSlots[map].vertices;
        distances.measure(mapSlots[map], vertex);
        if (d == NONE) {
            return greatest(distances.row, vertices);
        }
        int found = 0;
        for (int v = 0; v < vertices; v++) {
            if (distances.row[v] == d) {
                found++;
            }
        }
        return found;
    }

    // ---- codes

    public int code(int map, int i) {
        if (noDart(map, i)) {
            return NONE;
        }
        namer.writeCode(mapSlots[map], mapSlots[map].root, oneCode);
        return oneCode[i];
    }

    public int alike(int map, int other, int how) {
        if (noMap(map) || noMap(other) || how < 0 || how > 2) {
            return NONE;
        }
        RootedMap one = mapSlots[map];
        RootedMap two = mapSlots[other];
        if (one.edges != two.edges) {
            return 0;
        }
        namer.writeCode(one, one.root, oneCode);
        if (how == 0) {
            return hasOneCode(two, two.root) ? 1 : 0;
        }
        if (how == 2) {
            mirrorIntoDraft(two);
            draft.numberRounds();
            two = draft;
        }
        return two.edges == 0 || rootingsOfOneCode(two) > 0 ? 1 : 0;
    }

    private boolean hasOneCode(RootedMap m, int start) {
        namer.writeCode(m, start, otherCode);
        for (int i = 0; i < m.darts(); i++) {
            if (oneCode[i] != otherCode[i]) {
                return false;
            }
        }
        return true;
    }

    private int rootingsOfOneCode(RootedMap m) {
        int found = 0;
        for (int d = 0; d < m.darts(); d++) {
            if (hasOneCode(m, d)) {
                found++;
            }
        }
        return found;
    }

    /** Each code comes from equally many darts: a map moved onto itself with one dart kept stays put. */
    public int rootings(int map) {
        if (noMap(map)) {
            return NONE;
        }
        RootedMap m = mapSlots[map];
        namer.writeCode(m, m.root, oneCode);
        int same = rootingsOfOneCode(m);
        return same > 0 ? m.darts() / same : 1;
    }

    // ---- a map made of another one

    public int change(int map, int how, int d, int into) {
        if (noMap(map) || noMap(into)) {
            return NONE;
        }
        RootedMap m = mapSlots[map];
        switch (how) {
            case 0:
                draft.becomeSame(m, m.next, m.root);
                break;
            case 1:
                mirrorIntoDraft(m);
                break;
            case 2:
                draft.becomeSame(m, m.follow, m.root);
                break;
            case 3:
                namer.writeCode(m, m.root, oneCode);
                draft.becomeSame(m, oneCode, 0);
                break;
            case 4:
                if (noDart(map, d)) {
                    return NONE;
                }
                draft.becomeSame(m, m.next, d);
                break;
            case 5:
                if (noDart(map, d) || m.faceOf[d] == m.faceOf[d ^ 1]) {
                    return NONE;
                }
                leaveEdgeOutOfDraft(m, d & ~1);
                break;
            default:
                return NONE;
        }
        return finishDraft(into);
    }

    private void mirrorIntoDraft(RootedMap m) {
        draft.edges = m.edges;
        draft.root = m.root;
        for (int d = 0; d < m.darts(); d++) {
            draft.next[m.next[d]] = d;
        }
    }

    private void leaveEdgeOutOfDraft(RootedMap m, int gone) {
        draft.edges = m.edges - 1;
        draft.root = 0;
        if (draft.edges == 0) {
            return;
        }
        int root = (m.root & ~1) == gone ? nextThatStays(m, m.root, gone) : m.root;
        draft.root = withoutEdge(root, gone);
        for (int d = 0; d < m.darts(); d++) {
            if ((d & ~1) != gone) {
                draft.next[withoutEdge(d, gone)] = withoutEdge(nextThatStays(m, d, gone), gone);
            }
        }
    }

    /** Both darts of the edge may stand side by side at one vertex, so two steps may be passed over. */
    private static int nextThatStays(RootedMap m, int dart, int gone) {
        int other = m.next[dart];
        for (int k = 0; k < 2 && (other & ~1) == gone; k++) {
            other = m.next[other];
        }
        return other;
    }

    private static int withoutEdge(int dart, int gone) {
        return dart > gone ? dart - 2 : dart;
    }

    private int finishDraft(int slot) {
        draft.numberRounds();
        return keepDraft(slot);
    }

    private int keepDraft(int slot) {
        RootedMap made = draft;
        draft = mapSlots[slot];
        mapSlots[slot] = made;
        return made.edges;
    }

    // ---- the text of a map, and what is held

    public int shown(int map, int i) {
        if (noMap(map) || i < NONE) {
            return NONE;
        }
        writer.write(mapSlots[map]);
        if (i == NONE) {
            return writer.length;
        }
        return i < writer.length ? writer.bytes[i] : NONE;
    }

    public int look(int what) {
        int edges = 0;
        switch (what) {
            case 0:
                return tapeLength;
            case 1:
                for (int i = 0; i < TREE_SLOTS; i++) {
                    edges += treeSlots[i].edges;
                }
                return edges;
            case 2:
                for (int i = 0; i < MAP_SLOTS; i++) {
                    edges += mapSlots[i].edges;
                }
                return edges;
            default:
                return NONE;
        }
    }

    /**
     * A map. Of all rows only the first darts() entries count (of degrees: vertices, faces); next is
     * a row of rounds over these darts, so that what is read from it is a dart again.
     */
    private static final class RootedMap {
        int edges = 0;
        int root = 0;
        int vertices = 1;
        int faces = 1;
        final int[] next = new int[MOST_DARTS];
        final int[] follow = new int[MOST_DARTS];
        final int[] vertexOf = new int[MOST_DARTS];
        final int[] faceOf = new int[MOST_DARTS];
        final int[] vertexDegrees = new int[MOST_DARTS];
        final int[] faceDegrees = new int[MOST_DARTS];

        int darts() {
            return 2 * edges;
        }

        void becomeSame(RootedMap other, int[] itsNext, int itsRoot) {
            edges = other.edges;
            root = itsRoot;
            for (int d = 0; d < darts() && d < itsNext.length; d++) {
                next[d] = itsNext[d];
            }
        }

        void becomeOneEdge() {
            edges = 1;
            root = 0;
            next[0] = 0;
            next[1] = 1;
        }

        /** What is numbered anew whenever next has been written. */
        void numberRounds() {
            for (int d = 0; d < darts(); d++) {
                follow[d] = next[d ^ 1];
            }
            vertices = numberRoundsOf(next, vertexOf, vertexDegrees);
            faces = numberRoundsOf(follow, faceOf, faceDegrees);
        }

        private int numberRoundsOf(int[] behind, int[] numberOf, int[] degrees) {
            if (edges == 0) {
                numberOf[0] = 0;
                degrees[0] = 0;
                return 1;
            }
            Arrays.fill(numberOf, NONE);
            int found = 0;
            for (int d = 0; d < darts(); d++) {
                if (numberOf[d] == NONE) {
                    int size = 0;
                    int at = d;
                    while (size < darts() && numberOf[at] == NONE) {
                        numberOf[at] = found;
                        at = behind[at];
                        size++;
                    }
                    degrees[found] = size;
                    found++;
                }
            }
            return found;
        }

        boolean hasFourSides() {
            for (int f = 0; f < faces; f++) {
                if (faceDegrees[f] != 4) {
                    return false;
                }
            }
            return true;
        }

        boolean hasFourSidesOrOneEdge() {
            return hasFourSides() || (edges == 1 && faces == 1);
        }

        int edgesInOneFace() {
            int found = 0;
            for (int d = 0; d < darts(); d += 2) {
                if (faceOf[d] == faceOf[d + 1]) {
                    found++;
                }
            }
            return found;
        }
    }

    /** A tree: steps and labels tell it, the other rows are found from these. */
    private static final class Tree {
        int edges = 0;
        final int[] steps = new int[MOST_STEPS];
        final int[] labels = new int[MOST_TREE_EDGES + 1];
        final int[] parents = new int[MOST_TREE_EDGES + 1];
        final int[] vertexAt = new int[MOST_STEPS];
        final int[] heirs = new int[MOST_STEPS];

        Tree() {
            placeCorners();
            findHeirs();
        }

        int corners() {
            return edges == 0 ? 1 : 2 * edges;
        }

        void becomeNumber(int n, long number, Shapes shapes) {
            edges = n;
            long rest = number;
            for (int v = n; v > 0; v--) {
                labels[v] = (int) (rest % 3) - 1;
                rest /= 3;
            }
            shapes.writeSteps(rest, n, steps);
            placeCorners();
            for (int v = 1; v <= n; v++) {
                labels[v] += labels[parents[v]];
            }
            findHeirs();
        }

        long number(Shapes shapes) {
            long number = shapes.number(steps, edges);
            for (int v = 1; v <= edges; v++) {
                number = 3 * number + labels[v] - labels[parents[v]] + 1;
            }
            return number;
        }

        void placeCorners() {
            int at = 0;
            int last = 0;
            vertexAt[0] = 0;
            parents[0] = NONE;
            for (int i = 0; i < 2 * edges; i++) {
                vertexAt[i] = at;
                if (steps[i] == 1 && last < edges) {
                    last++;
                    parents[last] = at;
                    at = last;
                } else if (at > 0) {
                    at = parents[at];
                }
            }
        }

        void findHeirs() {
            for (int c = 0; c < corners(); c++) {
                heirs[c] = heirOf(c);
            }
        }

        private int heirOf(int corner) {
            int wanted = labels[vertexAt[corner]] - 1;
            int c = corner;
            for (int k = 1; k < corners(); k++) {
                c = c + 1 == corners() ? 0 : c + 1;
                if (labels[vertexAt[c]] == wanted) {
                    return c;
                }
            }
            return NONE;
        }
    }

    /** Shapes by number and back: for steps that are left and a height, the ways down to the root. */
    private static final class Shapes {
        private final int[][] ways = new int[MOST_STEPS + 1][MOST_STEPS + 2];

        Shapes() {
            ways[0][0] = 1;
            for (int left = 1; left <= MOST_STEPS; left++) {
                for (int height = 0; height <= MOST_STEPS; height++) {
                    int down = height == 0 ? 0 : ways[left - 1][height - 1];
                    ways[left][height] = down + ways[left - 1][height + 1];
                }
            }
        }

        int howMany(int n) {
            return ways[2 * n][0];
        }

        void writeSteps(long number, int n, int[] steps) {
            long rest = number;
            int height = 0;
            for (int i = 0; i < 2 * n; i++) {
                int down = waysDown(2 * n - i - 1, height);
                if (rest < down) {
                    steps[i] = 0;
                    height--;
                } else {
                    rest -= down;
                    steps[i] = 1;
                    height++;
                }
            }
        }

        long number(int[] steps, int n) {
            long number = 0;
            int height = 0;
            for (int i = 0; i < 2 * n; i++) {
                if (steps[i] == 1) {
                    number += waysDown(2 * n - i - 1, height);
                    height++;
                } else {
                    height--;
                }
            }
            return number;
        }

        /** How many shapes go down where one is: these stand ahead of those that go up there. */
        private int waysDown(int left, int height) {
            return height <= 0 ? 0 : ways[left][height - 1];
        }
    }

    /** The numbers of maps by edges and degree; a row is made when it is first asked for. */
    private static final class Counts {
        private final long[][] rows = new long[MOST_COUNT_EDGES + 1][MOST_COUNT_DEGREE + 1];
        private int made = 1;

        Counts() {
            rows[0][0] = 1;
        }

        long ofOne(int n, int k) {
            makeRowsTo(n);
            return rows[n][k];
        }

        long ofAll(int n) {
            makeRowsTo(n);
            long sum = 0;
            for (int k = 0; k <= 2 * n; k++) {
                sum += rows[n][k];
            }
            return sum;
        }

        private void makeRowsTo(int n) {
            while (made <= n && made <= MOST_COUNT_EDGES) {
                for (int i = 0; i < made; i++) {
                    addPairs(i, made - 1 - i, rows[made]);
                }
                addLonger(rows[made - 1], rows[made], 2 * made);
                made++;
            }
        }

        /** A root's edge that has one face on both sides parts the map in two. */
        private void addPairs(int i, int j, long[] sums) {
            for (int a = 0; a <= 2 * i; a++) {
                for (int b = 0; b <= 2 * j; b++) {
                    sums[a + b + 2] += rows[i][a] * rows[j][b];
                }
            }
        }

        /** Another root's edge was drawn into a root's face of degree k less 1 or more. */
        private static void addLonger(long[] fewer, long[] sums, int most) {
            long longer = 0;
            for (int k = most; k >= 1; k--) {
                longer += fewer[k - 1];
                sums[k] += longer;
            }
        }
    }

    /** Distances of all vertices from one. */
    private static final class Distances {
        final int[] row = new int[MOST_DARTS];
        int reached = 0;

        void measure(RootedMap m, int vertex) {
            Arrays.fill(row, NONE);
            row[vertex] = 0;
            reached = 1;
            for (int far = 0; far < m.vertices && reached < m.vertices; far++) {
                for (int d = 0; d < m.darts(); d++) {
                    int to = m.vertexOf[d ^ 1];
                    if (row[m.vertexOf[d]] == far && row[to] == NONE) {
                        row[to] = far + 1;
                        reached++;
                    }
                }
            }
        }
    }

    /** Writes next of the darts of one round, as they come. */
    private static final class RoundMaker {
        private int first = NONE;
        private int last = NONE;

        void begin() {
            first = NONE;
            last = NONE;
        }

        void add(int dart, int[] next) {
            if (first == NONE) {
                first = dart;
            } else {
                next[last] = dart;
            }
            last = dart;
        }

        void close(int[] next) {
            if (first != NONE) {
                next[last] = first;
            }
        }
    }

    /** Names the darts from one on, and writes the code. */
    private static final class Namer {
        private final int[] nameOf = new int[MOST_DARTS];
        private final int[] dartOf = new int[MOST_DARTS];
        private final int[] walked = new int[MOST_DARTS];
        private int named = 0;

        void writeCode(RootedMap m, int start, int[] code) {
            nameDarts(m, start);
            for (int i = 0; i < named && i < code.length; i++) {
                code[i] = nameOf[m.next[dartOf[i]]];
            }
        }

        private void nameDarts(RootedMap m, int start) {
            named = 0;
            if (m.edges == 0) {
                return;
            }
            Arrays.fill(nameOf, NONE);
            Arrays.fill(walked, 0);
            nameEdge(start);
            for (int i = 0; i < m.darts() && i < named; i++) {
                int vertex = m.vertexOf[dartOf[i]];
                if (walked[vertex] == 0) {
                    walked[vertex] = 1;
                    nameRound(m, dartOf[i], m.vertexDegrees[vertex]);
                }
            }
        }

        private void nameRound(RootedMap m, int first, int degree) {
            int d = first;
            for (int k = 0; k < degree; k++) {
                if (nameOf[d] == NONE) {
                    nameEdge(d);
                }
                d = m.next[d];
            }
        }

        private void nameEdge(int d) {
            if (named + 1 < MOST_DARTS) {
                nameOf[d] = named;
                dartOf[named] = d;
                nameOf[d ^ 1] = named + 1;
                dartOf[named + 1] = d ^ 1;
                named += 2;
            }
        }
    }

    /** The text by which a map is told. */
    private static final class TextWriter {
        final int[] bytes = new int[MOST_TEXT];
        int length = 0;

        void write(RootedMap m) {
            length = 0;
            int written = 0;
            for (int d = 0; d < m.darts(); d++) {
                if (m.vertexOf[d] == written) {
                    writeRound(m, d, m.vertexDegrees[written]);
                    written++;
                }
            }
        }

        private void writeRound(RootedMap m, int first, int degree) {
            int d = first;
            for (int k = 0; k < degree; k++) {
                put(k == 0 ? OPEN : BLANK);
                if (d >= 10) {
                    put(ZERO + d / 10);
                }
                put(ZERO + d % 10);
                d = m.next[d];
            }
            put(CLOSE);
        }

        private void put(int sign) {
            if (length < MOST_TEXT) {
                bytes[length] = sign;
                length++;
            }
        }
    }

    /** Reads a text byte by byte, up to its first fault. */
    private static final class Reader {
        static final int NOT_CONNECTED = 5;
        static final int NOT_PLANE = 6;

        private static final int WRONG_SIGN = 1;
        private static final int NO_DART = 2;
        private static final int TOLD_TWICE = 3;
        private static final int NOT_ALL_TOLD = 4;

        private static final int OUTSIDE = 0;
        private static final int BEHIND_OPEN = 1;
        private static final int BEHIND_NUMBER = 2;
        private static final int IN_NUMBER = 3;

        int fault = 0;
        int faultPlace = NONE;
        int faultRound = NONE;
        int faultRoundPlace = NONE;
        int faultDart = NONE;

        private final int[] next = new int[MOST_DARTS];
        private final int[] told = new int[MOST_DARTS];
        private final RoundMaker roundMaker = new RoundMaker();
        private int toldDarts = 0;
        private int where = OUTSIDE;
        private int round = NONE;
        private int roundPlace = NONE;
        private int dartsInRound = 0;
        private int number = 0;
        private int numberPlace = 0;

        void clear() {
            fault = 0;
            faultPlace = NONE;
            faultRound = NONE;
            faultRoundPlace = NONE;
            faultDart = NONE;
        }

        void refuse(int what, int place) {
            fault = what;
            faultPlace = place;
        }

        /** Whether the bytes are a text of all darts from 0 on; without a fault so far. */
        boolean read(int[] tape, int length) {
            Arrays.fill(told, 0);
            toldDarts = 0;
            where = OUTSIDE;
            round = NONE;
            for (int i = 0; i < length && i < tape.length && fault == 0; i++) {
                takeSign(tape[i], i);
            }
            if (fault == 0) {
                takeEnd(length);
            }
            return fault == 0;
        }

        void copyTo(RootedMap m) {
            m.edges = toldDarts / 2;
            m.root = 0;
            for (int d = 0; d < toldDarts; d++) {
                m.next[d] = next[d];
            }
        }

        private void takeSign(int sign, int place) {
            if (sign >= ZERO && sign <= ZERO + 9) {
                takeDigit(sign - ZERO, place);
                return;
            }
            endNumber();
            if (fault != 0) {
                return;
            }
            if (sign == OPEN && where == OUTSIDE) {
                openRound(place);
            } else if (sign == CLOSE && where == BEHIND_NUMBER) {
                roundMaker.close(next);
                where = OUTSIDE;
            } else if (sign != BLANK && sign != LINE_END) {
                refuse(WRONG_SIGN, place);
            }
        }

        private void takeDigit(int digit, int place) {
            if (where == OUTSIDE || (where == IN_NUMBER && place - numberPlace >= 2)) {
                refuse(WRONG_SIGN, place);
            } else if (where == IN_NUMBER) {
                number = 10 * number + digit;
            } else {
                where = IN_NUMBER;
                number = digit;
                numberPlace = place;
            }
        }

        private void openRound(int place) {
            where = BEHIND_OPEN;
            round++;
            roundPlace = place;
            dartsInRound = 0;
            roundMaker.begin();
        }

        /** Only behind its last digit a number is looked at: a third digit is ahead of its other faults. */
        private void endNumber() {
            if (where != IN_NUMBER) {
                return;
            }
            where = BEHIND_NUMBER;
            if (number >= MOST_DARTS) {
                refuseNumber(NO_DART);
            } else if (told[number] != 0) {
                refuseNumber(TOLD_TWICE);
            } else {
                told[number] = 1;
                toldDarts++;
                dartsInRound++;
                roundMaker.add(number, next);
            }
        }

        private void refuseNumber(int what) {
            refuse(what, numberPlace);
            faultRound = round;
            faultRoundPlace = roundPlace;
            faultDart = dartsInRound;
        }

        private void takeEnd(int length) {
            endNumber();
            if (fault != 0) {
                return;
            }
            if (where != OUTSIDE) {
                refuse(WRONG_SIGN, length);
            } else if (!allTold()) {
                refuse(NOT_ALL_TOLD, length);
            }
        }

        private boolean allTold() {
            for (int d = 0; d < toldDarts; d++) {
                if (told[d] == 0) {
                    return false;
                }
            }
            return toldDarts % 2 == 0;
        }
    }
}
