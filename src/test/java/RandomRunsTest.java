import java.lang.reflect.InvocationTargetException;
import java.lang.reflect.Method;
import java.util.ArrayList;
import java.util.List;
import java.util.Random;

/** Runs of 512 calls, with right and wrong arguments, on the class and on the model: all answers are the same. */
public final class RandomRunsTest {
    private static final int RUNS = 300;
    private static final int CALLS = 512;

    /** Each call with the kinds of its arguments; see argument(). */
    private static final String[] CALLS_AND_KINDS = {
        "end e", "map m", "fault w", "count Nk", "trees n", "tree tnL", "tree tnL", "tree tnL", "rank t", "shape twi",
        "shape twi", "turn tms", "turn tms", "turn tms", "back mvt", "back mvt", "back mvt", "halve mm", "halve mm", "redouble mm",
        "redouble mm", "of mw", "of mw", "dart mdw", "dart mdw", "degree msv", "distance mvv", "ring mvr",
        "code md", "alike mms", "alike mms", "rootings m", "change mhdm", "change mhdm", "change mhdm",
        "shown mi", "look s", "text", "text", "text", "text",
    };
    private static final int[] EXTREMES = {Integer.MIN_VALUE, Integer.MAX_VALUE, -100, -2, 300, 1 << 30, 65536};

    private static final Check CHECK = new Check("random runs");

    private final Random random;
    private final PlaneMaps x = new PlaneMaps();
    private final Model model = new Model();
    private final String run;

    private RandomRunsTest(int run) {
        this.run = "run " + run + ": ";
        this.random = new Random(run);
    }

    public static void main(String[] args) throws ReflectiveOperationException {
        int runs = args.length > 0 ? Integer.parseInt(args[0]) : RUNS;
        int first = args.length > 1 ? Integer.parseInt(args[1]) : 0;
        for (int i = first; i < first + runs; i++) {
            RandomRunsTest one = new RandomRunsTest(i);
            for (int calls = 0; calls < CALLS; calls++) {
                one.step();
                if (calls % 16 == 0) {
                    one.compareAll();
                }
            }
        }
        CHECK.end();
    }

    private void step() throws ReflectiveOperationException {
        String[] parts = CALLS_AND_KINDS[random.nextInt(CALLS_AND_KINDS.length)].split(" ");
        if (parts[0].equals("text")) {
            readText();
            return;
        }
        long[] arguments = new long[parts[1].length()];
        for (int i = 0; i < arguments.length; i++) {
            arguments[i] = argument(parts[1].charAt(i), arguments, i);
        }
        both(parts[0], arguments);
    }

    /** Beyond the calls of the run: a slot that was written wrongly would else be seen by chance alone. */
    private void compareAll() throws ReflectiveOperationException {
        for (int slot = 0; slot < 4; slot++) {
            both("of", slot, 3);
            int length = model.shown(slot, -1);
            for (int i = -1; i < length; i++) {
                due("shown", x.shown(slot, i), model.shown(slot, i));
            }
        }
        for (int slot = 0; slot < 3; slot++) {
            both("rank", slot);
            for (int what = 0; what <= 5; what++) {
                for (int i = 0; i < 17; i++) {
                    due("shape", x.shape(slot, what, i), model.shape(slot, what, i));
                }
            }
        }
    }

    private void due(String what, long got, long want) {
        CHECK.due(run + what, got, want);
    }

    private long argument(char kind, long[] before, int i) {
        if (random.nextInt(60) == 0) {
            return kind == 'L' ? random.nextLong() : EXTREMES[random.nextInt(EXTREMES.length)];
        }
        return switch (kind) {
            case 't' -> about(3);
            case 'm' -> about(4);
            case 'w' -> about(9);
            case 's' -> about(3);
            case 'h' -> about(6);
            case 'n' -> about(9);
            case 'N' -> about(15);
            case 'k' -> about(30) - 1;
            case 'v' -> about(random.nextBoolean() ? 4 : 18);
            case 'd' -> about(random.nextBoolean() ? 8 : 32);
            case 'r' -> about(9) - 1;
            case 'e' -> about(40);
            case 'i' -> about(random.nextBoolean() ? 20 : 110) - 1;
            default -> treeNumber((int) before[i - 1]);
        };
    }

    /** One of 0 to n less 1, now and then one beside these. */
    private int about(int n) {
        return random.nextInt(12) == 0 ? random.nextInt(n + 2) - 1 : random.nextInt(n);
    }

    private long treeNumber(int n) {
        long trees = Math.max(1, model.trees(n));
        return random.nextInt(20) == 0 ? trees - 1 + random.nextInt(2) : random.nextLong(trees);
    }

    private void readText() throws ReflectiveOperationException {
        String text = RandomTexts.make(random);
        for (int i = 0; i < text.length(); i += 20) {
            int[] five = Check.five(text, i);
            both("feed", five[0], five[1], five[2], five[3], five[4]);
        }
        if (random.nextInt(20) != 0) {
            both("end", Math.min(text.length(), model.look(0)));
        }
        both("map", argument('m', null, 0));
        for (int what = 0; what <= 4; what++) {
            both("fault", what);
        }
    }

    private void both(String name, long... arguments) throws ReflectiveOperationException {
        List<Object> boxed = new ArrayList<>();
        Method own = find(PlaneMaps.class, name);
        for (int i = 0; i < arguments.length; i++) {
            boxed.add(own.getParameterTypes()[i] == long.class ? (Object) arguments[i] : (Object) (int) arguments[i]);
        }
        long want = number(find(Model.class, name).invoke(model, boxed.toArray()));
        long got;
        try {
            got = number(own.invoke(x, boxed.toArray()));
        } catch (InvocationTargetException thrown) {
            thrown.getCause().printStackTrace(System.out);
            got = Long.MIN_VALUE;
        }
        CHECK.due(run + name + boxed, got, want);
    }

    private static long number(Object answer) {
        return answer instanceof Boolean yes ? (yes ? 1 : 0) : ((Number) answer).longValue();
    }

    private static Method find(Class<?> owner, String name) {
        for (Method method : owner.getMethods()) {
            if (method.getName().equals(name)) {
                return method;
            }
        }
        throw new IllegalStateException(owner + " has no " + name);
    }
}
