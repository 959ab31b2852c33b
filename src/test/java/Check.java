import java.util.function.ToLongFunction;

/** What the project's tests share: answers against what is due, and texts on the tape. */
final class Check {
    private final String name;
    private int asked = 0;
    private int wrong = 0;
    private String sentence = "";
    private int sentences = 0;
    private int askedBefore = 0;

    Check(String name) {
        this.name = name;
    }

    /** What is asked from here on tests these words of the document; a sentence that asks nothing is wrong. */
    void sentence(String where, String words) {
        closeSentence();
        sentence = where + ", \"" + words + "\": ";
        sentences++;
        askedBefore = asked;
    }

    private void closeSentence() {
        if (sentences > 0 && asked == askedBefore) {
            wrong++;
            System.out.println(sentence + "asks nothing");
        }
    }

    void due(String what, long got, long want) {
        asked++;
        if (got != want) {
            tellWrong(what + " answered " + got + ", due is " + want);
        }
    }

    void due(String what, boolean got, boolean want) {
        due(what, got ? 1 : 0, want ? 1 : 0);
    }

    void due(String what, String got, String want) {
        asked++;
        if (!got.equals(want)) {
            tellWrong(what + " is " + got + ", due is " + want);
        }
    }

    private void tellWrong(String text) {
        wrong++;
        if (wrong <= 50) {
            System.out.println(sentence + text);
        }
    }

    /** The text by which the map in a slot is told. */
    void dueText(String what, PlaneMaps x, int map, String want) {
        due(what, shown(x, map), want);
    }

    /** A text that can't be taken, with what fault(0) to fault(4) answer of it. */
    void dueFault(String text, int... want) {
        PlaneMaps x = new PlaneMaps();
        due("map of " + text, read(x, text, 1), PlaneMaps.NONE);
        for (int what = 0; what <= 4; what++) {
            due("fault(" + what + ") of " + text, x.fault(what), want[what]);
        }
    }

    /** A fault without anything WITHIN. */
    void dueBareFault(String text, int fault, int place) {
        dueFault(text, fault, place, PlaneMaps.NONE, PlaneMaps.NONE, PlaneMaps.NONE);
    }

    /** All that is told of the map in a slot is told as of one without edges. */
    void dueBare(String what, PlaneMaps x, int slot) {
        int[] want = {0, 1, 1, 0, 0, 0, 0, 1, 0};
        for (int sort = 0; sort < want.length; sort++) {
            due(what + ", of " + sort, x.of(slot, sort), want[sort]);
        }
        due(what + ", degree of the vertex", x.degree(slot, 0, 0), 0);
        due(what + ", degree of the face", x.degree(slot, 1, 0), 0);
        due(what + ", another vertex", x.degree(slot, 0, 1), PlaneMaps.NONE);
        due(what + ", another face", x.degree(slot, 1, 1), PlaneMaps.NONE);
        due(what + ", next", x.dart(slot, 0, 0), PlaneMaps.NONE);
        due(what + ", distance", x.distance(slot, 0, 0), 0);
        due(what + ", vertices at no distance", x.ring(slot, 0, 0), 1);
        due(what + ", greatest distance", x.ring(slot, 0, PlaneMaps.NONE), 0);
        due(what + ", code", x.code(slot, 0), PlaneMaps.NONE);
        due(what + ", rootings", x.rootings(slot), 1);
        due(what + ", text", shown(x, slot), "");
    }

    /** A new object with a map in slot 0. */
    PlaneMaps with(String text) {
        PlaneMaps x = new PlaneMaps();
        due("the text is taken: " + text, read(x, text, 0) >= 0, true);
        return x;
    }

    /** A call on Samples.full() that answers what is due and changes nothing that can be seen. */
    void dueRefused(String what, long want, ToLongFunction<PlaneMaps> call) {
        PlaneMaps x = Samples.full();
        String before = Samples.state(x);
        due(what, call.applyAsLong(x), want);
        due(what + ": all that is held", Samples.state(x), before);
        due(what + ": the text on the tape", x.map(3), 1);
    }

    /** Prints the result and ends the program with 1 if an answer was wrong. */
    void end() {
        closeSentence();
        String of = sentences > 0 ? sentences + " sentences, " : "";
        System.out.println(name + ": " + of + asked + " answers, " + wrong + " wrong");
        if (wrong != 0 || asked == 0) {
            System.exit(1);
        }
    }

    /** Puts a text behind the tape, twenty bytes a call, and cuts off what is too much. */
    static void put(PlaneMaps x, String text) {
        int before = x.look(0);
        for (int i = 0; i < text.length(); i += 20) {
            int[] five = five(text, i);
            x.feed(five[0], five[1], five[2], five[3], five[4]);
        }
        x.end(before + text.length());
    }

    static int[] five(String text, int from) {
        int[] five = new int[5];
        for (int k = 0; k < 20; k++) {
            int sign = from + k < text.length() ? text.charAt(from + k) & 255 : 0;
            five[k / 4] |= sign << (24 - 8 * (k % 4));
        }
        return five;
    }

    static int read(PlaneMaps x, String text, int slot) {
        put(x, text);
        return x.map(slot);
    }

    static String shown(PlaneMaps x, int map) {
        StringBuilder text = new StringBuilder();
        int length = x.shown(map, PlaneMaps.NONE);
        for (int i = 0; i < length; i++) {
            text.append((char) x.shown(map, i));
        }
        return text.toString();
    }

    static String code(PlaneMaps x, int map) {
        StringBuilder text = new StringBuilder();
        int darts = 2 * x.of(map, 0);
        for (int i = 0; i < darts; i++) {
            text.append(i == 0 ? "" : " ").append(x.code(map, i));
        }
        return text.toString();
    }
}
