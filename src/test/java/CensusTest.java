import java.util.HashMap;
import java.util.HashSet;
import java.util.Map;
import java.util.Set;

/** All trees of few edges: the numbers of what comes out of them must be the ones that count() tells. */
public final class CensusTest {
    private static final int MOST = 4;

    private static final Check CHECK = new Check("census");

    public static void main(String[] args) {
        for (int n = 0; n <= MOST; n++) {
            countAll(n);
        }
        tellTreesApart(5);
        CHECK.end();
    }

    private static void countAll(int n) {
        Map<String, Integer> pointed = new HashMap<>();
        Map<String, Integer> rootFaces = new HashMap<>();
        PlaneMaps x = new PlaneMaps();
        long trees = x.trees(n);
        for (long number = 0; number < trees; number++) {
            for (int sign = 0; sign <= 1; sign++) {
                takeTree(x, n, number, sign, pointed, rootFaces);
            }
        }
        CHECK.due("maps of four sides, " + n, pointed.size(), x.count(n, -1));
        CHECK.due("halved ones, " + n, rootFaces.size(), x.count(n, -1));
        for (int times : pointed.values()) {
            CHECK.due("points of a map of four sides, " + n, times, n + 2);
        }
        for (int k = 0; k <= 28; k++) {
            int found = 0;
            for (int degree : rootFaces.values()) {
                found += degree == k ? 1 : 0;
            }
            CHECK.due("maps of " + n + " edges and root's face of degree " + k, found, x.count(n, k));
        }
    }

    private static void takeTree(PlaneMaps x, int n, long number, int sign, Map<String, Integer> pointed,
            Map<String, Integer> rootFaces) {
        String what = "tree " + n + " " + number + " sign " + sign;
        CHECK.due(what, x.tree(0, n, number), true);
        CHECK.due(what + " rank", x.rank(0), number);
        int point = x.turn(0, 0, sign);
        CHECK.due(what + " vertices", x.of(0, 1), n + 2);
        CHECK.due(what + " four sides", x.of(0, 6), n == 0 ? 0 : 1);
        CHECK.due(what + " sign back", x.back(0, point, 1), sign);
        CHECK.due(what + " back", x.rank(1), number);
        pointed.merge(Check.code(x, 0), 1, Integer::sum);
        CHECK.due(what + " halved", x.halve(0, 1), n);
        CHECK.due(what + " halved is plane", x.of(1, 1) + x.of(1, 2), n + 2);
        rootFaces.put(Check.code(x, 1), n == 0 ? 0 : x.degree(1, 1, x.dart(1, x.of(1, 3), 3)));
        CHECK.due(what + " doubled", x.redouble(1, 2), n == 0 ? 1 : 2 * n);
        CHECK.due(what + " doubled is as before", x.alike(2, 0, 0), 1);
    }

    private static void tellTreesApart(int n) {
        PlaneMaps x = new PlaneMaps();
        Set<String> seen = new HashSet<>();
        String before = "";
        for (long number = 0; number < x.trees(n); number++) {
            x.tree(0, n, number);
            StringBuilder told = new StringBuilder();
            for (int i = 0; i < 2 * n; i++) {
                told.append(x.shape(0, 1, i));
            }
            for (int v = 1; v <= n; v++) {
                told.append(x.shape(0, 2, v) - x.shape(0, 2, x.shape(0, 3, v)) + 1);
            }
            CHECK.due("tree " + number + " is behind the one ahead", before.compareTo(told.toString()) < 0, true);
            before = told.toString();
            seen.add(before);
        }
        CHECK.due("unlike trees", seen.size(), x.trees(n));
    }
}
