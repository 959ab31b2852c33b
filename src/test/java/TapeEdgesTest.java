/** Promises 1 to 5: each sentence that names a boundary case, each with a test of its own. */
public final class TapeEdgesTest {
    private static final int NONE = PlaneMaps.NONE;
    private static final int LEAST = Integer.MIN_VALUE;
    private static final int MOST = Integer.MAX_VALUE;

    private static final Check CHECK = new Check("edges of promises 1 to 5");

    public static void main(String[] args) {
        newTrees();
        newMaps();
        lastCall();
        none();
        feedBehind();
        feedHighestFirst();
        feedTooMuch();
        endAlone();
        endFalse();
        mapEmptiesTape();
        mapComes();
        mapWithFault();
        mapWithoutSlot();
        faultLatest();
        faultPlaces();
        faultOther();
        CHECK.end();
    }

    private static void due(String what, long got, long want) {
        CHECK.due(what, got, want);
    }

    private static void due(String what, boolean got, boolean want) {
        CHECK.due(what, got, want);
    }

    // ---- promise 1, and how long an object is used

    private static void newTrees() {
        CHECK.sentence("Promise 1", "TREES, MAPS without EDGES.");
        for (PlaneMaps x : new PlaneMaps[] {new PlaneMaps(), Samples.used()}) {
            for (int slot = 0; slot < 3; slot++) {
                due("edges", x.shape(slot, 0, 0), 0);
                due("rank", x.rank(slot), 0);
                due("no step", x.shape(slot, 1, 0), -100);
                due("label of the root", x.shape(slot, 2, 0), 0);
                due("parent of the root", x.shape(slot, 3, 0), NONE);
                due("heir", x.shape(slot, 4, 0), NONE);
                due("vertex", x.shape(slot, 5, 0), 0);
            }
        }
    }

    private static void newMaps() {
        CHECK.sentence("Promise 1", "MAPS without EDGES.");
        for (PlaneMaps x : new PlaneMaps[] {new PlaneMaps(), Samples.used()}) {
            for (int slot = 0; slot < 4; slot++) {
                CHECK.dueBare("at first, or as at first", x, slot);
            }
            due("an empty tape", x.look(0), 0);
            due("no edges of trees", x.look(1), 0);
            due("no edges of maps", x.look(2), 0);
        }
    }

    private static void lastCall() {
        CHECK.sentence("What it is", "An object is used for at most 512 calls after it has been made");
        PlaneMaps x = new PlaneMaps();
        for (int i = 0; i < 128; i++) {
            x.tree(0, 8, 70000L * i);
            x.turn(0, i % 4, 0);
            x.halve(i % 4, (i + 1) % 4);
            if (i < 127) {
                x.redouble((i + 1) % 4, (i + 2) % 4);
            }
        }
        due("the 512th", x.rank(0), 70000L * 127);
    }

    private static void none() {
        CHECK.sentence("The constants", "`NONE = -1`: None.");
        due("NONE", PlaneMaps.NONE, -1);
    }

    // ---- promises 2 and 3

    private static void feedBehind() {
        CHECK.sentence("Promise 2", "Twenty bytes come behind THE TAPE");
        PlaneMaps x = new PlaneMaps();
        for (int i = 1; i <= 15; i++) {
            due("how many it has", x.feed(0, 0, 0, 0, 0), 20 * i);
            due("look", x.look(0), 20 * i);
        }
        PlaneMaps y = new PlaneMaps();
        Check.put(y, "(0 ");
        Check.put(y, "1)");
        due("behind what there is", y.map(0), 1);
        CHECK.dueText("behind what there is", y, 0, Samples.LOOP);
        Check.put(y, "(0 xxx");
        y.end(3);
        Check.put(y, "1)");
        due("behind what was left of it", y.map(1), 1);
    }

    private static void feedHighestFirst() {
        CHECK.sentence("Promise 2", "four of each number, the highest first: how many it has");
        PlaneMaps x = new PlaneMaps();
        due("five numbers", x.feed(0x28302034, 0x29283120, 0x32292833, 0x29283529, 0x20200a0a), 20);
        due("(0 4)(1 2)(3)(5)", x.map(0), 3);
        CHECK.dueText("the bytes in their order", x, 0, "(0 4)(1 2)(3)(5)");
        for (int place = 0; place < 20; place++) {
            int[] five = Check.five(" ".repeat(place) + (char) 0xa8 + " ".repeat(19 - place), 0);
            x.feed(five[0], five[1], five[2], five[3], five[4]);
            due("a byte above 127, at " + place, x.map(1), NONE);
            due("its place", x.fault(1), place);
        }
        x.feed(-1, -1, -1, -1, -1);
        x.map(1);
        due("a byte 255", x.fault(1), 0);
    }

    private static void feedTooMuch() {
        CHECK.sentence("Promise 2", "NONE, and none come, if there would be more than 300.");
        for (int length = 279; length <= 300; length++) {
            PlaneMaps x = new PlaneMaps();
            Check.put(x, "(0)(1)" + " ".repeat(length - 6));
            due("feed behind " + length, x.feed(-1, -1, -1, -1, -1), length <= 280 ? length + 20 : NONE);
            due("how many there are", x.look(0), length <= 280 ? length + 20 : length);
            due("a text still, if none came", x.map(0), length <= 280 ? NONE : 1);
        }
    }

    private static void endAlone() {
        CHECK.sentence("Promise 3", "THE TAPE has its first n bytes alone: true");
        for (int n = 0; n <= 20; n++) {
            PlaneMaps x = new PlaneMaps();
            x.feed(0, 0, 0, 0, 0);
            due("end " + n, x.end(n), true);
            due("bytes", x.look(0), n);
            due("feed behind these", x.feed(0, 0, 0, 0, 0), n + 20);
        }
        PlaneMaps y = new PlaneMaps();
        due("of an empty one none", y.end(0), true);
        Check.put(y, "(0 1)(2");
        due("the first five", y.end(5), true);
        due("are a text", y.map(0), 1);
        for (int i = 0; i < 15; i++) {
            y.feed(0, 0, 0, 0, 0);
        }
        due("all 300", y.end(300), true);
    }

    private static void endFalse() {
        CHECK.sentence("Promise 3", "false if it has not so many, or n is below 0.");
        for (int n : new int[] {27, 28, 300, 301, 512, MOST, -1, -2, -26, LEAST}) {
            CHECK.dueRefused("end " + n, 0, x -> x.end(n) ? 1 : 0);
        }
        PlaneMaps x = new PlaneMaps();
        due("an empty one has not one", x.end(1), false);
        for (int i = 0; i < 15; i++) {
            x.feed(0, 0, 0, 0, 0);
        }
        due("a full one has not 301", x.end(301), false);
        due("it has 300 still", x.look(0), 300);
        x.end(10);
        due("what was cut off does not count", x.end(11), false);
    }

    // ---- promises 4 and 5

    private static void mapEmptiesTape() {
        CHECK.sentence("Promise 4", "THE TAPE (empty then, in any case) is a TEXT");
        String[] texts = {"", "(0)(1)", "(x", "(99)", "(0 0)", "(0)", "(0 1)(2 3)", "(0 2 1 3)"};
        for (String text : texts) {
            for (int slot : new int[] {0, 3, 4, -1, LEAST}) {
                PlaneMaps x = new PlaneMaps();
                Check.read(x, text, slot);
                due("bytes behind map(" + slot + ") of " + text, x.look(0), 0);
                due("the next one has none of them", x.map(0), 0);
            }
        }
    }

    private static void mapComes() {
        CHECK.sentence("Promise 4", "its MAP comes into a SLOT, ROOT 0: how many EDGES.");
        for (int slot = 0; slot < 4; slot++) {
            PlaneMaps x = new PlaneMaps();
            due("none", x.map(slot), 0);
            due("sixteen", Check.read(x, Samples.star(16), slot), 16);
            x.change(slot, 4, 31, slot);
            due("sixteen again", Check.read(x, Samples.path(16), slot), 16);
            due("root 0 then", x.of(slot, 3), 0);
            CHECK.dueText("it is there", x, slot, Samples.path(16));
            due("none again", x.map(slot), 0);
            due("without edges", x.of(slot, 0), 0);
            due("the other slots have none", x.look(2), 0);
        }
    }

    private static void mapWithFault() {
        CHECK.sentence("Promise 4", "NONE with a FAULT (the SLOT stays)");
        String[] texts = {"(0)(1)x", "(0 32)", "(0 0)", "(0)", "(0 1)(2 3)", "(0 2 1 3)"};
        for (int fault = 1; fault <= 6; fault++) {
            for (int slot = 0; slot < 4; slot++) {
                PlaneMaps x = new PlaneMaps();
                for (int i = 0; i < 4; i++) {
                    Check.read(x, Samples.TRIANGLE, i);
                    x.change(i, 4, 5, i);
                }
                due("map of " + texts[fault - 1], Check.read(x, texts[fault - 1], slot), NONE);
                due("its fault", x.fault(0), fault);
                for (int i = 0; i < 4; i++) {
                    CHECK.dueText("slot " + i + " stays", x, i, Samples.TRIANGLE);
                    due("its root, too", x.of(i, 3), 5);
                }
            }
        }
    }

    private static void mapWithoutSlot() {
        CHECK.sentence("Promise 4", "-2: no such SLOT (no FAULT).");
        for (int slot : Samples.NO_MAP_SLOT) {
            for (String text : new String[] {"", Samples.EDGE, "(x", "(0)(0)"}) {
                PlaneMaps x = CHECK.with(Samples.LOOP);
                due("a fault ahead of it", Check.read(x, "(0 99)", 0), NONE);
                due("map(" + slot + ")", Check.read(x, text, slot), -2);
                due("no fault", x.fault(0), 0);
                for (int what = 1; what <= 4; what++) {
                    due("nothing of a fault, " + what, x.fault(what), NONE);
                }
                due("one loop is all there is", x.look(2), 1);
            }
        }
    }

    private static void faultLatest() {
        CHECK.sentence("Promise 5", "Of the latest map() what 0 its FAULT (0 without)");
        PlaneMaps x = new PlaneMaps();
        due("without any map()", x.fault(0), 0);
        Check.read(x, "(0 0)", 0);
        due("fault 3", x.fault(0), 3);
        x.feed(0, 0, 0, 0, 0);
        x.end(999);
        x.end(0);
        x.turn(0, 0, 0);
        x.change(0, 9, 9, 9);
        due("other calls leave it", x.fault(0), 3);
        due("and asking", x.fault(0), 3);
        Check.read(x, "(0", 0);
        due("the latest one's is 1", x.fault(0), 1);
        x.map(0);
        due("none of an empty text", x.fault(0), 0);
        Check.read(x, "(0", 0);
        Check.read(x, Samples.EDGE, 0);
        due("none of a text", x.fault(0), 0);
        Check.read(x, "(0", 0);
        x.map(4);
        due("none without a slot", x.fault(0), 0);
    }

    private static void faultPlaces() {
        CHECK.sentence("Promise 5", "1 its place (NONE), 2 .. 4 WITHIN (NONE).");
        PlaneMaps x = new PlaneMaps();
        dueFaults("without any map()", x, NONE, NONE, NONE, NONE);
        Check.read(x, "(0)(1 99)", 0);
        dueFaults("a dart above 31", x, 6, 1, 3, 1);
        Check.read(x, "(0)(1 0)", 0);
        dueFaults("a dart told already", x, 6, 1, 3, 1);
        Check.read(x, "x", 0);
        dueFaults("a wrong sign at place 0", x, 0, NONE, NONE, NONE);
        Check.read(x, "(00 00)", 0);
        dueFaults("in round 0 at place 0", x, 4, 0, 0, 1);
        Check.read(x, Samples.EDGE, 0);
        dueFaults("without a fault", x, NONE, NONE, NONE, NONE);
    }

    private static void dueFaults(String what, PlaneMaps x, int... want) {
        for (int i = 1; i <= 4; i++) {
            due(what + ", fault(" + i + ")", x.fault(i), want[i - 1]);
        }
    }

    private static void faultOther() {
        CHECK.sentence("Promise 5", "NONE for another what.");
        for (int what : Samples.never(-1, 5)) {
            CHECK.dueRefused("fault " + what, NONE, x -> x.fault(what));
        }
    }
}
