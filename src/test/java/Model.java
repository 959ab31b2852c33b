import java.util.ArrayDeque;
import java.util.ArrayList;
import java.util.Arrays;
import java.util.Collections;
import java.util.HashSet;
import java.util.LinkedHashMap;
import java.util.List;
import java.util.Map;
import java.util.Set;
import java.util.TreeMap;
import java.util.TreeSet;
import java.util.regex.Matcher;
import java.util.regex.Pattern;

/**
 * The document once more, by other ways than the class takes: lists of rounds instead of rows, shapes
 * by trying all numbers of two, a text by patterns. It makes new objects all the time and keeps no rule
 * of LANGUAGE.md. Its public methods are those of the class.
 */
public final class Model {
    /** A map as rounds of darts. */
    static final class Rounds {
        final List<List<Integer>> vertices;
        final int root;

        Rounds(List<List<Integer>> unsorted, int root) {
            this.vertices = byLeast(unsorted);
            this.root = root;
        }

        static List<List<Integer>> byLeast(List<List<Integer>> unsorted) {
            TreeMap<Integer, List<Integer>> sorted = new TreeMap<>();
            for (List<Integer> round : unsorted) {
                if (!round.isEmpty()) {
                    List<Integer> turned = new ArrayList<>(round);
                    Collections.rotate(turned, -turned.indexOf(Collections.min(turned)));
                    sorted.put(turned.get(0), turned);
                }
            }
            return new ArrayList<>(sorted.values());
        }

        static Rounds ofNext(Map<Integer, Integer> next, int root) {
            List<List<Integer>> all = new ArrayList<>();
            Set<Integer> seen = new HashSet<>();
            for (int d : next.keySet()) {
                List<Integer> round = new ArrayList<>();
                for (int at = d; seen.add(at); at = next.get(at)) {
                    round.add(at);
                }
                all.add(round);
            }
            return new Rounds(all, root);
        }

        int darts() {
            int all = 0;
            for (List<Integer> round : vertices) {
                all += round.size();
            }
            return all;
        }

        int edges() {
            return darts() / 2;
        }

        Map<Integer, Integer> next() {
            Map<Integer, Integer> next = new TreeMap<>();
            for (List<Integer> round : vertices) {
                for (int i = 0; i < round.size(); i++) {
                    next.put(round.get(i), round.get((i + 1) % round.size()));
                }
            }
            return next;
        }

        Map<Integer, Integer> follow() {
            Map<Integer, Integer> next = next();
            Map<Integer, Integer> follow = new TreeMap<>();
            for (int d : next.keySet()) {
                follow.put(d, next.get(d % 2 == 0 ? d + 1 : d - 1));
            }
            return follow;
        }

        List<List<Integer>> faces() {
            return ofNext(follow(), 0).vertices;
        }

        static int roundOf(List<List<Integer>> all, int d) {
            for (int i = 0; i < all.size(); i++) {
                if (all.get(i).contains(d)) {
                    return i;
                }
            }
            return d == 0 ? 0 : -1;
        }

        int vertexCount() {
            return Math.max(1, vertices.size());
        }

        int faceCount() {
            return Math.max(1, faces().size());
        }

        int vertex(int d) {
            return roundOf(vertices, d);
        }

        int[] distances(int from) {
            int[] far = new int[vertexCount()];
            Arrays.fill(far, -1);
            far[from] = 0;
            ArrayDeque<Integer> waiting = new ArrayDeque<>(List.of(from));
            while (!waiting.isEmpty()) {
                int v = waiting.remove();
                List<Integer> round = vertices.isEmpty() ? List.of() : vertices.get(v);
                for (int d : round) {
                    int w = vertex(d ^ 1);
                    if (far[w] < 0) {
                        far[w] = far[v] + 1;
                        waiting.add(w);
                    }
                }
            }
            return far;
        }

        boolean isConnected() {
            for (int far : distances(0)) {
                if (far < 0) {
                    return false;
                }
            }
            return true;
        }

        boolean isPlane() {
            return vertexCount() + faceCount() == edges() + 2;
        }

        boolean allFour() {
            boolean all = edges() > 0;
            for (List<Integer> face : faces()) {
                all &= face.size() == 4;
            }
            return all;
        }

        boolean canGoBack() {
            return allFour() || (edges() == 1 && vertexCount() == 2);
        }

        /** Names by a list of vertices that wait, each with its first dart. */
        List<Integer> code(int from) {
            if (edges() == 0) {
                return List.of();
            }
            Map<Integer, Integer> next = next();
            List<Integer> named = new ArrayList<>(List.of(from, from ^ 1));
            Set<Integer> done = new HashSet<>();
            boolean more = true;
            while (more) {
                more = false;
                for (int first : named) {
                    if (done.add(vertex(first))) {
                        int at = first;
                        do {
                            if (!named.contains(at)) {
                                named = new ArrayList<>(named);
                                named.add(at);
                                named.add(at ^ 1);
                            }
                            at = next.get(at);
                        } while (at != first);
                        more = true;
                        break;
                    }
                }
            }
            List<Integer> code = new ArrayList<>();
            for (int d : named) {
                code.add(named.indexOf(next.get(d)));
            }
            return code;
        }

        Rounds mirrored() {
            List<List<Integer>> all = new ArrayList<>();
            for (List<Integer> round : vertices) {
                List<Integer> other = new ArrayList<>(round);
                Collections.reverse(other);
                all.add(other);
            }
            return new Rounds(all, root);
        }

        String text() {
            StringBuilder text = new StringBuilder();
            for (List<Integer> round : vertices) {
                text.append(round.toString().replace("[", "(").replace("]", ")").replace(",", ""));
            }
            return text.toString();
        }
    }

    /** A tree as nested lists would be read: steps and labels. */
    record Plant(String steps, int[] labels) {
        int edges() {
            return steps.length() / 2;
        }

        int corners() {
            return Math.max(1, steps.length());
        }

        int[] parents() {
            int[] parents = new int[edges() + 1];
            ArrayDeque<Integer> open = new ArrayDeque<>(List.of(0));
            parents[0] = -1;
            int last = 0;
            for (char step : steps.toCharArray()) {
                if (step == '1') {
                    last++;
                    parents[last] = open.peek();
                    open.push(last);
                } else {
                    open.pop();
                }
            }
            return parents;
        }

        int vertexAt(int corner) {
            ArrayDeque<Integer> open = new ArrayDeque<>(List.of(0));
            int last = 0;
            for (char step : steps.substring(0, corner).toCharArray()) {
                if (step == '1') {
                    open.push(++last);
                } else {
                    open.pop();
                }
            }
            return open.peek();
        }

        int labelAt(int corner) {
            return labels[vertexAt(corner)];
        }

        int heir(int corner) {
            for (int k = 1; k <= corners(); k++) {
                int other = (corner + k) % corners();
                if (labelAt(other) == labelAt(corner) - 1) {
                    return other;
                }
            }
            return -1;
        }
    }

    private static final Map<Integer, List<String>> SHAPES = new LinkedHashMap<>();
    private static final Map<List<Integer>, Long> COUNTS = new LinkedHashMap<>();

    private final StringBuilder tape = new StringBuilder();
    private final Plant[] plants = new Plant[3];
    private final Rounds[] maps = new Rounds[4];
    private int[] fault = {0, -1, -1, -1, -1};

    public Model() {
        Arrays.fill(plants, new Plant("", new int[1]));
        Arrays.fill(maps, new Rounds(List.of(), 0));
    }

    private boolean hasMap(int slot) {
        return 0 <= slot && slot <= 3;
    }

    private boolean hasPlant(int slot) {
        return 0 <= slot && slot <= 2;
    }

    private boolean hasVertex(int slot, int v) {
        return hasMap(slot) && 0 <= v && v < maps[slot].vertexCount();
    }

    private boolean hasDart(int slot, int d) {
        return hasMap(slot) && 0 <= d && d < maps[slot].darts();
    }

    // ---- texts

    public int feed(int a, int b, int c, int d, int e) {
        if (tape.length() > 280) {
            return -1;
        }
        for (int number : new int[] {a, b, c, d, e}) {
            tape.append((char) (number >> 24 & 255)).append((char) (number >> 16 & 255));
            tape.append((char) (number >> 8 & 255)).append((char) (number & 255));
        }
        return tape.length();
    }

    public boolean end(int n) {
        if (0 <= n && n <= tape.length()) {
            tape.setLength(n);
            return true;
        }
        return false;
    }

    public int map(int slot) {
        String text = tape.toString();
        tape.setLength(0);
        fault = new int[] {0, -1, -1, -1, -1};
        if (!hasMap(slot)) {
            return -2;
        }
        List<List<Integer>> rounds = new ArrayList<>();
        fault = faultOf(text, rounds);
        if (fault[0] != 0) {
            return -1;
        }
        maps[slot] = new Rounds(rounds, 0);
        return maps[slot].edges();
    }

    /** Where the text stops being one, and which number inside it is wrong; whichever is farther left. */
    private static int[] faultOf(String text, List<List<Integer>> rounds) {
        int bad = placeOfWrongSign(text);
        Matcher number = Pattern.compile("[0-9]+").matcher(text);
        Set<Integer> told = new TreeSet<>();
        List<Integer> round = new ArrayList<>();
        int opened = -1;
        while (number.find() && (bad < 0 || number.start() < bad)) {
            int open = text.lastIndexOf('(', number.start());
            if (open != opened) {
                round = new ArrayList<>();
                rounds.add(round);
                opened = open;
            }
            if (number.end() - number.start() > 2) {
                return new int[] {1, number.start() + 2, -1, -1, -1};
            }
            int dart = Integer.parseInt(number.group());
            if (dart > 31 || !told.add(dart)) {
                return new int[] {dart > 31 ? 2 : 3, number.start(), rounds.size() - 1, open, round.size()};
            }
            round.add(dart);
        }
        int what = bad >= 0 ? 1 : faultOfWhole(told, rounds);
        return new int[] {what, what == 0 ? -1 : bad >= 0 ? bad : text.length(), -1, -1, -1};
    }

    private static int faultOfWhole(Set<Integer> told, List<List<Integer>> rounds) {
        for (int i = 0; i < told.size(); i++) {
            if (!told.contains(i)) {
                return 4;
            }
        }
        if (told.size() % 2 == 1) {
            return 4;
        }
        Rounds map = new Rounds(rounds, 0);
        return !map.isConnected() ? 5 : !map.isPlane() ? 6 : 0;
    }

    /** The longest beginning that can still become a text ends where the wrong sign is. */
    private static int placeOfWrongSign(String text) {
        String number = "[0-9]{1,2}";
        String round = "\\(B*(?:N(?:B+N)*)B*\\)";
        String begun = "\\(B*(?:N(?:B+N)*B*)?";
        Pattern beginning = Pattern.compile(("(?:B*" + round + ")*B*(?:" + begun + ")?")
                .replace("N", number).replace("B", "[ \n]"));
        Pattern whole = Pattern.compile(("(?:B*" + round + ")*B*").replace("N", number).replace("B", "[ \n]"));
        if (whole.matcher(text).matches()) {
            return -1;
        }
        for (int length = 1; length <= text.length(); length++) {
            if (!beginning.matcher(text.substring(0, length)).matches()) {
                return length - 1;
            }
        }
        return text.length();
    }

    public int fault(int what) {
        return 0 <= what && what <= 4 ? fault[what] : -1;
    }

    // ---- numbers

    public long count(int n, int k) {
        if (n < 0 || n > 14 || k < -1 || k > 28) {
            return -1;
        }
        if (k >= 0) {
            return countOf(n, k);
        }
        long all = 0;
        for (int i = 0; i <= 28; i++) {
            all += countOf(n, i);
        }
        return all;
    }

    private static long countOf(int n, int k) {
        if (n == 0 || k < 1 || k > 2 * n) {
            return n == 0 && k == 0 ? 1 : 0;
        }
        Long known = COUNTS.get(List.of(n, k));
        if (known != null) {
            return known;
        }
        long all = 0;
        for (int i = 0; i < n; i++) {
            for (int a = 0; a <= k - 2; a++) {
                all += countOf(i, a) * countOf(n - 1 - i, k - 2 - a);
            }
        }
        for (int c = k - 1; c <= 2 * n; c++) {
            all += countOf(n - 1, c);
        }
        COUNTS.put(List.of(n, k), all);
        return all;
    }

    /** All numbers of two that go up first, never below the root, and end there, the lesser ahead. */
    private static List<String> shapes(int n) {
        return SHAPES.computeIfAbsent(n, edges -> {
            List<String> all = new ArrayList<>();
            for (int number = 0; number < 1 << 2 * edges; number++) {
                int height = 0;
                boolean fine = true;
                StringBuilder steps = new StringBuilder();
                for (int bit = 2 * edges - 1; bit >= 0; bit--) {
                    int up = number >> bit & 1;
                    height += 2 * up - 1;
                    fine &= height >= 0;
                    steps.append(up);
                }
                if (fine && height == 0) {
                    all.add(steps.toString());
                }
            }
            return all;
        });
    }

    private static long labellings(int n) {
        return Math.round(Math.pow(3, n));
    }

    public long trees(int n) {
        return n < 0 || n > 8 ? -1 : shapes(n).size() * labellings(n);
    }

    public boolean tree(int slot, int n, long number) {
        if (!hasPlant(slot) || number < 0 || number >= trees(n)) {
            return false;
        }
        String steps = shapes(n).get((int) (number / labellings(n)));
        Plant bare = new Plant(steps, new int[n + 1]);
        StringBuilder digits = new StringBuilder(Long.toString(number % labellings(n), 3));
        while (digits.length() < n) {
            digits.insert(0, '0');
        }
        for (int v = 1; v <= n; v++) {
            bare.labels()[v] = bare.labels()[bare.parents()[v]] + digits.charAt(v - 1) - '1';
        }
        plants[slot] = bare;
        return true;
    }

    public long rank(int slot) {
        if (!hasPlant(slot)) {
            return -1;
        }
        Plant plant = plants[slot];
        long number = shapes(plant.edges()).indexOf(plant.steps()) * labellings(plant.edges());
        for (int v = 1; v <= plant.edges(); v++) {
            long digit = plant.labels()[v] - plant.labels()[plant.parents()[v]] + 1;
            number += digit * labellings(plant.edges() - v);
        }
        return number;
    }

    public int shape(int slot, int what, int i) {
        if (!hasPlant(slot) || what < 0 || what > 5) {
            return -100;
        }
        Plant plant = plants[slot];
        int n = plant.edges();
        int[] limits = {Integer.MAX_VALUE, 2 * n, n + 1, n + 1, plant.corners(), plant.corners()};
        if (what > 0 && (i < 0 || i >= limits[what])) {
            return -100;
        }
        return switch (what) {
            case 0 -> n;
            case 1 -> plant.steps().charAt(i) - '0';
            case 2 -> plant.labels()[i];
            case 3 -> plant.parents()[i];
            case 4 -> plant.heir(i);
            default -> plant.vertexAt(i);
        };
    }

    // ---- trees and maps

    public int turn(int tree, int map, int sign) {
        if (!hasPlant(tree) || !hasMap(map) || sign < 0 || sign > 1) {
            return -1;
        }
        Plant plant = plants[tree];
        List<List<Integer>> rounds = new ArrayList<>();
        for (int v = 0; v <= plant.edges() + 1; v++) {
            rounds.add(new ArrayList<>());
        }
        List<Integer> point = rounds.get(plant.edges() + 1);
        for (int c = 0; c < plant.corners(); c++) {
            int here = c;
            List<Integer> heirsOf = new ArrayList<>();
            for (int other = 0; other < plant.corners(); other++) {
                if (plant.heir(other) == c) {
                    heirsOf.add(other);
                }
            }
            heirsOf.sort((a, b) -> Math.floorMod(here - a, plant.corners()) - Math.floorMod(here - b, plant.corners()));
            for (int other : heirsOf) {
                rounds.get(plant.vertexAt(c)).add(2 * other + 1);
            }
            rounds.get(plant.vertexAt(c)).add(2 * c);
            if (plant.heir(c) < 0) {
                point.add(0, 2 * c + 1);
            }
        }
        maps[map] = new Rounds(rounds, sign);
        return maps[map].vertex(point.get(0));
    }

    /** The tree as a map of its own, whose ends are put into the rounds; then children by going down. */
    public int back(int map, int vertex, int tree) {
        if (!hasVertex(map, vertex) || !hasPlant(tree) || !maps[map].canGoBack()) {
            return -1;
        }
        Rounds m = maps[map];
        int[] far = m.distances(vertex);
        int sign = far[m.vertex(m.root)] > far[m.vertex(m.root ^ 1)] ? 0 : 1;
        Map<Integer, Integer> partner = new TreeMap<>();
        for (List<Integer> face : m.faces()) {
            List<Integer> ends = new ArrayList<>();
            for (int d : face) {
                if (far[m.vertex(d ^ 1)] > far[m.vertex(d)]) {
                    ends.add(d ^ 1);
                }
            }
            if (ends.size() == 2) {
                partner.put(ends.get(0), ends.get(1));
                partner.put(ends.get(1), ends.get(0));
            }
        }
        StringBuilder steps = new StringBuilder();
        List<Integer> labels = new ArrayList<>();
        int start = m.root ^ sign;
        int base = far[m.vertex(start)];
        labels.add(0);
        List<Integer> ends = endsFrom(m, partner, start);
        for (int end : ends) {
            growChild(m, partner, far, partner.get(end), base, steps, labels);
        }
        plants[tree] = new Plant(steps.toString(), labels.stream().mapToInt(i -> i).toArray());
        return sign;
    }

    /** The darts at a vertex, clockwise from one on, behind which an edge of the tree stands. */
    private static List<Integer> endsFrom(Rounds m, Map<Integer, Integer> partner, int first) {
        List<Integer> round = new ArrayList<>(m.vertices.get(m.vertex(first)));
        Collections.rotate(round, -round.indexOf(first));
        round.removeIf(d -> !partner.containsKey(d));
        return round;
    }

    private static void growChild(Rounds m, Map<Integer, Integer> partner, int[] far, int arrived, int base,
            StringBuilder steps, List<Integer> labels) {
        steps.append('1');
        labels.add(far[m.vertex(arrived)] - base);
        List<Integer> ends = endsFrom(m, partner, arrived);
        for (int end : ends.subList(1, ends.size())) {
            growChild(m, partner, far, partner.get(end), base, steps, labels);
        }
        steps.append('0');
    }

    public int halve(int map, int into) {
        if (!hasMap(map) || !hasMap(into) || !maps[map].canGoBack()) {
            return -1;
        }
        Rounds m = maps[map];
        if (m.edges() == 1) {
            maps[into] = new Rounds(List.of(), 0);
            return 0;
        }
        int[] far = m.distances(m.vertex(m.root));
        Map<Integer, Integer> names = new TreeMap<>();
        for (int f = 0; f < m.faces().size(); f++) {
            TreeSet<Integer> even = new TreeSet<>(m.faces().get(f));
            even.removeIf(d -> far[m.vertex(d)] % 2 != 0);
            names.put(even.first(), 2 * f);
            names.put(even.last(), 2 * f + 1);
        }
        List<List<Integer>> rounds = new ArrayList<>();
        for (List<Integer> round : m.vertices) {
            List<Integer> named = new ArrayList<>();
            for (int d : round) {
                if (names.containsKey(d)) {
                    named.add(names.get(d));
                }
            }
            rounds.add(named);
        }
        maps[into] = new Rounds(rounds, names.get(m.root));
        return maps[into].edges();
    }

    public int redouble(int map, int into) {
        if (!hasMap(map) || !hasMap(into) || maps[map].edges() > 8) {
            return -1;
        }
        Rounds m = maps[map];
        if (m.edges() == 0) {
            maps[into] = new Rounds(List.of(List.of(0), List.of(1)), 0);
            return 1;
        }
        List<List<Integer>> rounds = new ArrayList<>();
        for (List<Integer> round : m.vertices) {
            rounds.add(round.stream().map(d -> 2 * d).toList());
        }
        for (List<Integer> face : m.faces()) {
            List<Integer> against = new ArrayList<>(face.stream().map(d -> 2 * d + 1).toList());
            Collections.reverse(against);
            rounds.add(against);
        }
        maps[into] = new Rounds(rounds, 2 * m.next().get(m.root));
        return maps[into].edges();
    }

    // ---- what a map is like

    public int of(int map, int what) {
        if (!hasMap(map)) {
            return -1;
        }
        Rounds m = maps[map];
        return switch (what) {
            case 0 -> m.edges();
            case 1 -> m.vertexCount();
            case 2 -> m.faceCount();
            case 3 -> m.root;
            case 4 -> m.vertices.stream().mapToInt(List::size).max().orElse(0);
            case 5 -> m.faces().stream().mapToInt(List::size).max().orElse(0);
            case 6 -> m.allFour() ? 1 : 0;
            case 7 -> m.faces().stream().allMatch(face -> face.size() % 2 == 0) ? 1 : 0;
            case 8 -> (int) m.faces().stream().flatMap(face -> face.stream().filter(d -> d % 2 == 0 && face.contains(d + 1))).count();
            default -> -1;
        };
    }

    public int dart(int map, int d, int what) {
        if (!hasDart(map, d)) {
            return -1;
        }
        Rounds m = maps[map];
        return switch (what) {
            case 0 -> m.next().get(d);
            case 1 -> m.follow().get(d);
            case 2 -> m.vertex(d);
            case 3 -> Rounds.roundOf(m.faces(), d);
            default -> -1;
        };
    }

    public int degree(int map, int of, int k) {
        if (!hasMap(map) || of < 0 || of > 1) {
            return -1;
        }
        List<List<Integer>> all = of == 0 ? maps[map].vertices : maps[map].faces();
        if (all.isEmpty()) {
            return k == 0 ? 0 : -1;
        }
        return 0 <= k && k < all.size() ? all.get(k).size() : -1;
    }

    public int distance(int map, int vertex, int other) {
        return hasVertex(map, vertex) && hasVertex(map, other) ? maps[map].distances(vertex)[other] : -1;
    }

    public int ring(int map, int vertex, int d) {
        if (!hasVertex(map, vertex) || d < -1) {
            return -1;
        }
        int[] far = maps[map].distances(vertex);
        return d == -1 ? Arrays.stream(far).max().getAsInt() : (int) Arrays.stream(far).filter(x -> x == d).count();
    }

    // ---- codes

    public int code(int map, int i) {
        return hasDart(map, i) ? maps[map].code(maps[map].root).get(i) : -1;
    }

    public int alike(int map, int other, int how) {
        if (!hasMap(map) || !hasMap(other) || how < 0 || how > 2) {
            return -1;
        }
        Rounds two = how == 2 ? maps[other].mirrored() : maps[other];
        List<Integer> code = maps[map].code(maps[map].root);
        if (how == 0) {
            return code.equals(two.code(two.root)) ? 1 : 0;
        }
        return codes(two).contains(code) ? 1 : 0;
    }

    private static Set<List<Integer>> codes(Rounds m) {
        Set<List<Integer>> all = new HashSet<>();
        for (int d = 0; d < Math.max(1, m.darts()); d++) {
            all.add(m.code(d));
        }
        return all;
    }

    public int rootings(int map) {
        return hasMap(map) ? codes(maps[map]).size() : -1;
    }

    // ---- changes

    public int change(int map, int how, int d, int into) {
        if (!hasMap(map) || !hasMap(into) || how < 0 || how > 5 || (how > 3 && !hasDart(map, d))) {
            return -1;
        }
        Rounds m = maps[map];
        if (how == 5 && Rounds.roundOf(m.faces(), d) == Rounds.roundOf(m.faces(), d ^ 1)) {
            return -1;
        }
        maps[into] = switch (how) {
            case 0 -> m;
            case 1 -> m.mirrored();
            case 2 -> new Rounds(m.faces(), m.root);
            case 3 -> byCode(m);
            case 4 -> new Rounds(m.vertices, d);
            default -> without(m, d / 2);
        };
        return maps[into].edges();
    }

    private static Rounds byCode(Rounds m) {
        Map<Integer, Integer> next = new TreeMap<>();
        List<Integer> code = m.code(m.root);
        for (int i = 0; i < code.size(); i++) {
            next.put(i, code.get(i));
        }
        return Rounds.ofNext(next, 0);
    }

    private static Rounds without(Rounds m, int edge) {
        List<List<Integer>> rounds = new ArrayList<>();
        for (List<Integer> round : m.vertices) {
            rounds.add(round.stream().filter(x -> x / 2 != edge).map(x -> x / 2 > edge ? x - 2 : x).toList());
        }
        int root = m.root;
        for (int k = 0; k < 2 && root / 2 == edge; k++) {
            root = m.next().get(root);
        }
        return new Rounds(rounds, m.edges() == 1 ? 0 : root / 2 > edge ? root - 2 : root);
    }

    public int shown(int map, int i) {
        if (!hasMap(map)) {
            return -1;
        }
        String text = maps[map].text();
        return i == -1 ? text.length() : 0 <= i && i < text.length() ? text.charAt(i) : -1;
    }

    public int look(int what) {
        return switch (what) {
            case 0 -> tape.length();
            case 1 -> Arrays.stream(plants).mapToInt(Plant::edges).sum();
            case 2 -> Arrays.stream(maps).mapToInt(Rounds::edges).sum();
            default -> -1;
        };
    }
}
