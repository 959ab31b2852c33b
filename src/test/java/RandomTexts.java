import java.util.ArrayList;
import java.util.Collections;
import java.util.List;
import java.util.Map;
import java.util.Random;
import java.util.TreeMap;

/** Texts of maps that were drawn edge by edge, with blanks anywhere, and such texts spoilt. */
final class RandomTexts {
    private static final String SIGNS = "() \n0123456789,(\t)\0";

    private RandomTexts() {
    }

    static String make(Random random) {
        String text = spread(relabelled(draw(random.nextInt(17), random), random), random);
        int kind = random.nextInt(8);
        if (kind == 0) {
            return spoil(text, random);
        }
        if (kind == 1) {
            return spoil(spoil(text, random), random);
        }
        if (kind == 2) {
            return junk(random);
        }
        return kind == 3 ? anyRounds(random) : text;
    }

    private static String spoil(String text, Random random) {
        StringBuilder spoilt = new StringBuilder(text);
        int at = random.nextInt(text.length() + 1);
        String sign = String.valueOf(SIGNS.charAt(random.nextInt(SIGNS.length())));
        int kind = random.nextInt(4);
        if (kind == 0 || at == text.length()) {
            spoilt.insert(at, sign);
        } else if (kind == 1) {
            spoilt.replace(at, at + 1, sign);
        } else if (kind == 2) {
            spoilt.deleteCharAt(at);
        } else {
            spoilt.setLength(at);
        }
        return spoilt.toString();
    }

    private static String junk(Random random) {
        StringBuilder text = new StringBuilder(random.nextBoolean() ? "(" : "");
        for (int i = random.nextInt(30); i > 0; i--) {
            text.append(random.nextInt(10) == 0 ? (char) random.nextInt(256) : SIGNS.charAt(random.nextInt(14)));
        }
        return text.toString();
    }

    /** Each dart once, in rounds of any kind: seldom connected or plane. */
    private static String anyRounds(Random random) {
        List<Integer> darts = new ArrayList<>();
        for (int d = random.nextInt(random.nextBoolean() ? 7 : 33) - 1; d >= 0; d--) {
            darts.add(d);
        }
        Collections.shuffle(darts, random);
        StringBuilder text = new StringBuilder();
        for (int i = 0; i < darts.size(); i++) {
            text.append(i == 0 ? "(" : random.nextInt(3) == 0 ? ")(" : " ").append(darts.get(i));
        }
        return text.append(darts.isEmpty() ? "" : ")").toString();
    }

    /** An edge to a new vertex or between two corners; what would not be plane is drawn anew. */
    private static Model.Rounds draw(int edges, Random random) {
        Model.Rounds m = new Model.Rounds(List.of(), 0);
        for (int e = 0; e < edges; e++) {
            Model.Rounds more = m;
            while (more.edges() == m.edges() || !more.isPlane() || !more.isConnected()) {
                List<List<Integer>> rounds = new ArrayList<>();
                for (List<Integer> round : m.vertices) {
                    rounds.add(new ArrayList<>(round));
                }
                if (rounds.isEmpty()) {
                    rounds.add(new ArrayList<>());
                }
                insert(rounds.get(random.nextInt(rounds.size())), 2 * e, random);
                if (random.nextInt(3) == 0) {
                    rounds.add(new ArrayList<>());
                    insert(rounds.get(rounds.size() - 1), 2 * e + 1, random);
                } else {
                    insert(rounds.get(random.nextInt(rounds.size())), 2 * e + 1, random);
                }
                more = new Model.Rounds(rounds, 0);
            }
            m = more;
        }
        return m;
    }

    private static void insert(List<Integer> round, int dart, Random random) {
        round.add(random.nextInt(round.size() + 1), dart);
    }

    private static Model.Rounds relabelled(Model.Rounds m, Random random) {
        List<Integer> edges = new ArrayList<>();
        for (int e = 0; e < m.edges(); e++) {
            edges.add(e);
        }
        Collections.shuffle(edges, random);
        int flips = random.nextInt(1 << 16);
        Map<Integer, Integer> next = new TreeMap<>();
        for (Map.Entry<Integer, Integer> entry : m.next().entrySet()) {
            next.put(relabel(entry.getKey(), edges, flips), relabel(entry.getValue(), edges, flips));
        }
        return Model.Rounds.ofNext(next, 0);
    }

    private static int relabel(int dart, List<Integer> edges, int flips) {
        return 2 * edges.get(dart / 2) + (dart + (flips >> dart / 2) & 1);
    }

    private static String spread(Model.Rounds m, Random random) {
        List<List<Integer>> rounds = new ArrayList<>(m.vertices);
        if (random.nextBoolean()) {
            Collections.shuffle(rounds, random);
        }
        int seldom = random.nextInt(4);
        StringBuilder text = new StringBuilder(blanks(seldom, random));
        for (List<Integer> round : rounds) {
            text.append('(');
            for (int i = 0; i < round.size(); i++) {
                text.append(blanks(seldom, random)).append(i > 0 ? " " : "");
                text.append(round.get(i) < 10 && random.nextInt(9) == 0 ? "0" : "").append(round.get(i));
            }
            text.append(blanks(seldom, random)).append(')').append(blanks(seldom, random));
        }
        return text.toString();
    }

    private static String blanks(int seldom, Random random) {
        return seldom == 0 && random.nextInt(3) == 0 ? random.nextBoolean() ? " " : "\n" : "";
    }
}
