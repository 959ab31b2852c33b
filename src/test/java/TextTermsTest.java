/** What ==== 3. says of SLOTS, THE TAPE, a TEXT, its FAULTS and WITHIN, sentence by sentence. */
public final class TextTermsTest {
    private static final int NONE = PlaneMaps.NONE;
    private static final String SLOTS = "SLOTS";
    private static final String TEXT = "TEXT";
    private static final String FAULTS = "FAULTS";
    private static final String WITHIN = "WITHIN";

    private static final Check CHECK = new Check("terms of texts");

    public static void main(String[] args) {
        treeSlots();
        mapSlots();
        tape();
        text();
        round();
        number();
        blanks();
        blanksBetweenNumbers();
        nextOfRounds();
        firstFault();
        wrongSigns();
        wrongEnds();
        thirdDigits();
        dartsAbove31();
        dartsToldAlready();
        notJustAllDarts();
        notConnected();
        notPlane();
        within();
        nothingWithin();
        CHECK.end();
    }

    private static void due(String what, long got, long want) {
        CHECK.due(what, got, want);
    }

    private static void treeSlots() {
        CHECK.sentence(SLOTS, "SLOTS 0 .. 2 hold TREES (without EDGES at first)");
        PlaneMaps x = new PlaneMaps();
        for (int slot = 0; slot <= 2; slot++) {
            due("edges at first", x.shape(slot, 0, 0), 0);
        }
        for (int slot = 0; slot <= 2; slot++) {
            CHECK.due("slot " + slot, x.tree(slot, slot + 2, slot + 10), true);
        }
        for (int slot = 0; slot <= 2; slot++) {
            due("each has its own", x.shape(slot, 0, 0), slot + 2);
            due("each has its own", x.rank(slot), slot + 10);
        }
        CHECK.due("no slot 3", x.tree(3, 1, 0), false);
        CHECK.due("no slot -1", x.tree(-1, 1, 0), false);
    }

    private static void mapSlots() {
        CHECK.sentence(SLOTS, "SLOTS 0 .. 3 MAPS (likewise)");
        PlaneMaps x = new PlaneMaps();
        for (int slot = 0; slot <= 3; slot++) {
            due("edges at first", x.of(slot, 0), 0);
        }
        for (int slot = 0; slot <= 3; slot++) {
            due("slot " + slot, Check.read(x, Samples.path(slot + 1), slot), slot + 1);
        }
        for (int slot = 0; slot <= 3; slot++) {
            CHECK.dueText("each has its own", x, slot, Samples.path(slot + 1));
        }
        due("no slot 4", x.map(4), -2);
        due("no slot -1", x.map(-1), -2);
    }

    private static void tape() {
        CHECK.sentence(TEXT, "THE TAPE has 300 bytes");
        PlaneMaps x = new PlaneMaps();
        due("a text of 300 bytes", Check.read(x, "(0)" + blanks(294) + "(1)", 0), 1);
        CHECK.dueText("its last byte counts", x, 0, Samples.EDGE);
        CHECK.dueBareFault(blanks(299) + "x", 1, 299);
        CHECK.dueBareFault(blanks(299) + "(", 1, 300);
        CHECK.dueBareFault("(0)" + blanks(297), 4, 300);
        CHECK.dueFault("(0)" + blanks(291) + "(1 99)", 2, 297, 1, 294, 1);
    }

    private static String blanks(int length) {
        return " ".repeat(length);
    }

    private static void text() {
        CHECK.sentence(TEXT, "A TEXT: { ROUND }");
        PlaneMaps x = CHECK.with(Samples.EDGE);
        due("no byte at all", x.map(0), 0);
        due("no edges then", x.of(0, 0), 0);
        due("one round", Check.read(x, Samples.LOOP, 0), 1);
        due("seventeen rounds", Check.read(x, Samples.path(16), 0), 16);
    }

    private static void round() {
        CHECK.sentence(TEXT, "ROUND: \"(\" N { N } \")\"");
        PlaneMaps x = new PlaneMaps();
        due("one dart each", Check.read(x, "(0)(1)", 0), 1);
        due("thirty-two darts", Check.read(x, Samples.loops(16), 0), 16);
        CHECK.dueBareFault("()", 1, 1);
        CHECK.dueBareFault("(0 1)()", 1, 6);
        CHECK.dueBareFault("( )", 1, 2);
        CHECK.dueBareFault("0 1", 1, 0);
        CHECK.dueBareFault("(0 1))", 1, 5);
        CHECK.dueBareFault("((0 1))", 1, 1);
        CHECK.dueBareFault("(0 (1))", 1, 3);
        CHECK.dueBareFault("(0 1", 1, 4);
    }

    private static void number() {
        CHECK.sentence(TEXT, "N: a DART, 1 to 2 digits that stand together");
        due("one digit and two", CHECK.with(Samples.path(8)).of(0, 0), 8);
        due("two digits of a dart below 10", CHECK.with("(00 1)").of(0, 0), 1);
        CHECK.dueText("it is that dart", CHECK.with("(01 00)"), 0, Samples.LOOP);
        CHECK.dueBareFault("(001)", 1, 3);
        CHECK.dueBareFault("(+1)", 1, 1);
        CHECK.dueBareFault("(1.)", 1, 2);
        // 1 and 0, not 10
        CHECK.dueText("digits that stand apart", CHECK.with("(1\n0)"), 0, Samples.LOOP);
    }

    private static void blanks() {
        CHECK.sentence(TEXT, "Blanks (32, 10) between");
        String[] loops = {" (0 1)", "\n(0 1)", "( 0 1)", "(\n0 1)", "(0 1 )", "(0 1\n)", "(0 1) ", "(0 1)\n", " \n ( \n 0 \n 1 \n ) \n "};
        for (String text : loops) {
            CHECK.dueText("a loop", CHECK.with(text), 0, Samples.LOOP);
        }
        CHECK.dueText("between rounds", CHECK.with("(0) \n (1)"), 0, Samples.EDGE);
        due("nothing else", Check.read(new PlaneMaps(), " \n\n ", 0), 0);
        for (int sign : new int[] {0, 9, 11, 12, 13, 31, 33, 128 + 32, 128 + 10, 255}) {
            CHECK.dueBareFault((char) sign + "(0 1)", 1, 0);
            CHECK.dueBareFault("(0" + (char) sign + "1)", 1, 2);
            CHECK.dueBareFault("(0 1)" + (char) sign, 1, 5);
        }
    }

    private static void blanksBetweenNumbers() {
        CHECK.sentence(TEXT, "where numbers stand side by side one at least");
        CHECK.dueText("one", CHECK.with("(0 1)"), 0, Samples.LOOP);
        CHECK.dueText("one that ends a line", CHECK.with("(0\n1)"), 0, Samples.LOOP);
        CHECK.dueText("two", CHECK.with("(0\n 1)"), 0, Samples.LOOP);
        // without one it is dart 1, and dart 0 is not told
        CHECK.dueBareFault("(01)", 4, 4);
        CHECK.dueText("none beside brackets", CHECK.with("(0)(1)"), 0, Samples.EDGE);
    }

    private static void nextOfRounds() {
        CHECK.sentence(TEXT, "A ROUND tells NEXT of each of its DARTS, that of the last one is the first one");
        PlaneMaps x = CHECK.with("(31 30 29 28 27 26 25 24 23 22 21 20 19 18 17 16 15 14 13 12 11 10 9 8 7 6 5 4 3 2 1 0)");
        for (int d = 0; d < 32; d++) {
            due("next of " + d, x.dart(0, d, 0), (d + 31) % 32);
        }
        PlaneMaps y = CHECK.with("(5 0 6)(2 1)(7)(4 3)");
        int[] want = {6, 2, 1, 4, 3, 0, 5, 7};
        for (int d = 0; d < 8; d++) {
            due("next of " + d, y.dart(0, d, 0), want[d]);
        }
    }

    private static void firstFault() {
        CHECK.sentence(FAULTS, "the first that is met from the left");
        CHECK.dueFault("(0 32 0 x", 2, 3, 0, 0, 1);
        CHECK.dueFault("(0 0 32 x", 3, 3, 0, 0, 1);
        CHECK.dueBareFault("(0 x 0 32", 1, 3);
        CHECK.dueFault("(32x", 2, 1, 0, 0, 0);
        CHECK.dueFault("(0 0x", 3, 3, 0, 0, 1);
        CHECK.dueFault("(32", 2, 1, 0, 0, 0);
        CHECK.dueFault("(0 0", 3, 3, 0, 0, 1);
        CHECK.dueFault("(2)(32)", 2, 4, 1, 3, 0);
        CHECK.dueBareFault("(2)(3", 1, 5);
        CHECK.dueBareFault("(0 2 1 3)(4 5)(6)", 4, 17);
        CHECK.dueBareFault("(0 2 1 3)(4 5)", 5, 14);
    }

    /** Each of the 256 bytes behind each sort of beginning. */
    private static void wrongSigns() {
        CHECK.sentence(FAULTS, "1 what can't stand there (at it;");
        String digits = "0123456789";
        String[][] beginnings = {
            {"", "( \n"}, {" ", "( \n"}, {"(0)", "( \n"}, {"(0)\n", "( \n"}, {"(", " \n" + digits}, {"(0)(\n", " \n" + digits},
            {"(0", ") \n" + digits}, {"(10", ") \n"}, {"(0 ", ") \n" + digits}, {"(10\n", ") \n" + digits}, {"(0 1", ") \n" + digits},
        };
        for (String[] beginning : beginnings) {
            for (char sign = 0; sign < 256; sign++) {
                PlaneMaps x = new PlaneMaps();
                Check.read(x, beginning[0] + sign, 0);
                boolean refused = x.fault(0) == 1 && x.fault(1) == beginning[0].length();
                CHECK.due(beginning[0] + " and byte " + (int) sign, refused, beginning[1].indexOf(sign) < 0);
            }
        }
    }

    private static void wrongEnds() {
        CHECK.sentence(FAULTS, "the end: its length;");
        for (String text : new String[] {"(", "( ", "(0", "(10", "(0 ", "(0 1", "(0)(", "(0)( \n", "(0 1)(2 3\n"}) {
            CHECK.dueBareFault(text, 1, text.length());
        }
    }

    private static void thirdDigits() {
        CHECK.sentence(FAULTS, "a third digit: at it, ahead of 2 and 3)");
        CHECK.dueBareFault("(000)", 1, 3);
        CHECK.dueBareFault("(320)", 1, 3);
        CHECK.dueBareFault("(999)", 1, 3);
        CHECK.dueBareFault("(9999)", 1, 3);
        CHECK.dueBareFault("(0 000)", 1, 5);
        CHECK.dueBareFault("(10 101", 1, 6);
        CHECK.dueFault("(32 000)", 2, 1, 0, 0, 0);
        CHECK.dueFault("(0 0 000)", 3, 3, 0, 0, 1);
    }

    private static void dartsAbove31() {
        CHECK.sentence(FAULTS, "2 a DART above 31 (at its first digit)");
        CHECK.dueBareFault("(31)", 4, 4);
        for (int dart = 32; dart <= 99; dart++) {
            CHECK.dueFault("( " + dart + ")", 2, 2, 0, 0, 0);
        }
    }

    private static void dartsToldAlready() {
        CHECK.sentence(FAULTS, "3 a DART told already (at it)");
        for (int dart = 0; dart <= 31; dart++) {
            int second = ("(" + dart + " ").length();
            CHECK.dueFault("(" + dart + " " + dart + ")", 3, second, 0, 0, 1);
            CHECK.dueFault("(" + dart + ")(" + dart + ")", 3, second + 1, 1, second, 0);
        }
        CHECK.dueFault("(1 01)", 3, 3, 0, 0, 1);
        CHECK.dueFault("(01 1)", 3, 4, 0, 0, 1);
        PlaneMaps x = CHECK.with(Samples.EDGE);
        due("what an earlier text told does not count", Check.read(x, Samples.EDGE, 0), 1);
        due("nor what one with a fault told", Check.read(x, "(0 x", 0), NONE);
        due("it is new each time", Check.read(x, Samples.EDGE, 0), 1);
    }

    private static void notJustAllDarts() {
        CHECK.sentence(FAULTS, "4 behind all, at the end: not just DARTS 0 .. 2 E less 1 were told");
        String[] texts = {"(0)", "(1)", "(31)", "(0 2)", "(1 2)", "(0 1 2)", "(0 1)(2 4)", "(0 1)(3) ", "(0)(1)(2)(3)(4)\n", "(0 31)"};
        for (String text : texts) {
            CHECK.dueBareFault(text, 4, text.length());
        }
        StringBuilder most = new StringBuilder("(0");
        for (int d = 1; d <= 30; d++) {
            most.append(" ").append(d);
        }
        CHECK.dueBareFault(most + ")", 4, most.length() + 1);
    }

    private static void notConnected() {
        CHECK.sentence(FAULTS, "5 likewise: it isn't connected");
        String[] texts = {"(0 1)(2 3)", "(0)(1)(2)(3)", "(0 1)(2)(3) ", "(0 2)(1 3)(4 5)", "(2 4)(3 5)(0 1)", "(0 2 1 3)(4 5)"};
        for (String text : texts) {
            CHECK.dueBareFault(text, 5, text.length());
        }
        String cycles = Samples.cycle(15) + "(30 31)";
        CHECK.dueBareFault(cycles, 5, cycles.length());
        StringBuilder apart = new StringBuilder();
        for (int d = 0; d < 32; d++) {
            apart.append("(").append(d).append(")");
        }
        CHECK.dueBareFault(apart.toString(), 5, apart.length());
    }

    private static void notPlane() {
        CHECK.sentence(FAULTS, "6 likewise: it isn't PLANE");
        String[] texts = {"(0 2 1 3)", "(0 2 1 3)\n", "(0 2 4)(1 3 5)", "(0 2 1 3 4)(5)"};
        for (String text : texts) {
            CHECK.dueBareFault(text, 6, text.length());
        }
        // loops whose darts alternate: 0 2 4 .. 30 and then 1 3 5 .. 31
        String crossed = Samples.pair(16).replaceAll("\\)\\(1.*", "") + " 1 3 5 7 9 11 13 15 17 19 21 23 25 27 29 31)";
        CHECK.dueBareFault(crossed, 6, crossed.length());
    }

    private static void within() {
        CHECK.sentence(WITHIN, "WITHIN of a FAULT 2, 3: the ROUND (from 0 on), the place of its \"(\", which DART of it (from 0 on)");
        CHECK.dueFault("(32)", 2, 1, 0, 0, 0);
        CHECK.dueFault(" (0)\n(1 2) ( 3 4 77)", 2, 17, 2, 11, 2);
        CHECK.dueFault(" (0)\n(1 2) ( 3 4 2)", 3, 17, 2, 11, 2);
        String all = Samples.loops(16);
        CHECK.dueFault(all.replace(")", " 5)"), 3, all.length(), 0, 0, 32);
        CHECK.dueFault(all + "(5)", 3, all.length() + 1, 1, all.length(), 0);
        StringBuilder apart = new StringBuilder();
        for (int d = 0; d < 32; d++) {
            apart.append("(").append(d).append(")");
        }
        CHECK.dueFault(apart + "(99)", 2, apart.length() + 1, 32, apart.length(), 0);
    }

    private static void nothingWithin() {
        CHECK.sentence(WITHIN, "WITHIN of a FAULT 2, 3");
        String[] texts = {"(0)(1 x", "(0)(1 2", "(0)(111)", "(0)(2 3)", "(0 1)(2 3)", "(0 2 1 3)"};
        int[] faults = {1, 1, 1, 4, 5, 6};
        for (int i = 0; i < texts.length; i++) {
            PlaneMaps x = new PlaneMaps();
            Check.read(x, "(0)(1 99)", 0);
            due("a fault 2 ahead of it", x.fault(4), 1);
            Check.read(x, texts[i], 0);
            due("fault of " + texts[i], x.fault(0), faults[i]);
            for (int what = 2; what <= 4; what++) {
                due("nothing within, " + what, x.fault(what), NONE);
            }
        }
    }
}
