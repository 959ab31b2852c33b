/** What the project's tests share: answers against what is due, and texts on the tape. */
final class Check {
    private final String name;
    private int asked = 0;
    private int wrong = 0;

    Check(String name) {
        this.name = name;
    }

    void due(String what, long got, long want) {
        asked++;
        if (got != want) {
            wrong++;
            if (wrong <= 50) {
                System.out.println(what + " answered " + got + ", due is " + want);
            }
        }
    }

    void due(String what, boolean got, boolean want) {
        due(what, got ? 1 : 0, want ? 1 : 0);
    }

    /** Prints the result and ends the program with 1 if an answer was wrong. */
    void end() {
        System.out.println(name + ": " + asked + " answers, " + wrong + " wrong");
        if (wrong != 0 || asked == 0) {
            System.exit(1);
        }
    }

    /** Puts a text behind the tape, twenty bytes a call, and cuts off what is too much. */
    static void put(PlaneMaps x, String text) {
        int before = x.look(0);
        for (int i = 0; i < text.length(); i += 20) {
            int[] five = five(text, i);
            x.feed(five[0], five[1], five[2], five[3], five[4]);
        }
        x.end(before + text.length());
    }

    static int[] five(String text, int from) {
        int[] five = new int[5];
        for (int k = 0; k < 20; k++) {
            int sign = from + k < text.length() ? text.charAt(from + k) & 255 : 0;
            five[k / 4] |= sign << (24 - 8 * (k % 4));
        }
        return five;
    }

    static int read(PlaneMaps x, String text, int slot) {
        put(x, text);
        return x.map(slot);
    }

    static String shown(PlaneMaps x, int map) {
        StringBuilder text = new StringBuilder();
        for (int i = 0; i < x.shown(map, PlaneMaps.NONE); i++) {
            text.append((char) x.shown(map, i));
        }
        return text.toString();
    }

    static String code(PlaneMaps x, int map) {
        StringBuilder text = new StringBuilder();
        for (int i = 0; i < 2 * x.of(map, 0); i++) {
            text.append(x.code(map, i)).append(' ');
        }
        return text.toString();
    }
}
