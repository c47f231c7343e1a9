import java.util.NoSuchElementException;
import java.util.Random;
import java.util.function.Supplier;

/** All promises: long runs of calls, good and wrong ones, on the class and on the plain model at once. */
public final class ModelTest {
    private static final int RUNS = 3000;
    private static final int CALLS = 512;
    private static final int[] FAR = {-2, -1, 8, 9, 24, 25, 40, 41, Integer.MIN_VALUE, Integer.MAX_VALUE};
    private static final double[] FAR_DOUBLES = {Double.NaN, Double.POSITIVE_INFINITY, Double.NEGATIVE_INFINITY, -0.0, 0.0,
        1000, -1000, 1000.5, -1000.5, Double.MIN_VALUE, Double.MAX_VALUE, 0.125, 4, 0.1, 5};

    private final Random random;
    private final NodeStage stage = new NodeStage();
    private final Model model = new Model();

    private ModelTest(long seed) {
        random = new Random(seed);
    }

    public static void main(String[] args) {
        long calls = 0;
        int wrong = 0;
        for (int run = 0; run < RUNS && wrong < 5; run++) {
            ModelTest test = new ModelTest(run);
            for (int k = 0; k < CALLS; k++) {
                String told = test.step(k);
                calls++;
                if (told != null) {
                    System.out.println("run " + run + ", call " + k + ": " + told);
                    wrong++;
                    break;
                }
            }
        }
        System.out.println(calls + " calls compared with the model, " + wrong + " runs with a wrong answer");
        if (wrong != 0) {
            System.exit(1);
        }
    }

    private int below(int bound) {
        return random.nextInt(60) == 0 ? FAR[random.nextInt(FAR.length)] : random.nextInt(bound);
    }

    private int someNode() {
        return below(model.look(0));
    }

    private double measure(int bound) {
        return random.nextInt(60) == 0 ? FAR_DOUBLES[random.nextInt(FAR_DOUBLES.length)]
                : random.nextInt(2) == 0 ? random.nextInt(bound) : random.nextDouble() * bound;
    }

    /** What is wrong with the next call, or null. */
    private String step(int k) {
        int kind = k < 30 ? random.nextInt(4) : random.nextInt(40);
        if (kind < 20) {
            return k < 30 || random.nextInt(3) == 0 ? build(kind % 4) : listening(kind % 5);
        }
        if (kind < 32) {
            return acting(kind % 6);
        }
        return reading(kind % 6);
    }

    private String build(int kind) {
        int a = someNode();
        int b = someNode();
        switch (kind) {
            case 0:
                int made = below(3);
                int name = below(random.nextInt(2) == 0 ? 1 : 4);
                return same("make(" + made + ", " + name + ")", () -> stage.make(made, name), () -> model.make(made, name));
            case 1:
                return same("attach(" + a + ")", () -> stage.attach(a), () -> model.attach(a));
            case 2:
                int c = random.nextInt(3) != 0 ? -1 : random.nextInt(2) == 0 ? someNode() : model.child(a, random.nextInt(3));
                return same("insert(" + a + ", " + b + ", " + c + ")", () -> nothing(() -> stage.insert(a, b, c)),
                        () -> nothing(() -> model.insert(a, b, c)));
            default:
                if (random.nextInt(4) != 0) {
                    return build(2);
                }
                return same("remove(" + a + ")", () -> stage.remove(a), () -> model.remove(a));
        }
    }

    private String listening(int kind) {
        int script = below(8);
        int node = someNode();
        switch (kind) {
            case 0:
            case 1:
                int command = below(9);
                int n = command == 5 ? below(8) : command == 3 || command == 4 ? below(40) : someNode();
                return same("command(" + script + ", " + command + ", " + n + ")",
                        () -> stage.command(script, command, n), () -> model.command(script, command, n));
            case 2:
                if (random.nextInt(6) != 0) {
                    return listening(3);
                }
                return same("clear(" + script + ")", () -> stage.clear(script), () -> model.clear(script));
            case 3:
                int type = below(8);
                int options = below(8);
                return same("listen(" + node + ", " + type + ", " + options + ", " + script + ")",
                        () -> stage.listen(node, type, options, script), () -> model.listen(node, type, options, script));
            default:
                int listener = below(40);
                return random.nextInt(8) != 0 ? listening(3) : same("unlisten(" + listener + ")",
                        () -> stage.unlisten(listener), () -> model.unlisten(listener));
        }
    }

    private String acting(int kind) {
        int node = someNode();
        double x = measure(30);
        double y = measure(30);
        switch (kind) {
            case 0:
            case 1:
                int type = below(8);
                int flags = below(8);
                return same("dispatch(" + node + ", " + type + ", " + flags + ")",
                        () -> stage.dispatch(node, type, flags), () -> model.dispatch(node, type, flags));
            case 2:
                double width = measure(40);
                double height = measure(40);
                return same("box(" + node + ", " + x + ", " + y + ", " + width + ", " + height + ")",
                        () -> nothing(() -> stage.box(node, x - 10, y - 10, width, height)),
                        () -> nothing(() -> model.box(node, x - 10, y - 10, width, height)));
            case 3:
                double scale = measure(5);
                int layer = below(3);
                return same("zoom(" + node + ", " + scale + ", " + layer + ")",
                        () -> stage.zoom(node, scale, layer), () -> model.zoom(node, scale, layer));
            default:
                boolean down = random.nextBoolean();
                return same("pointer(" + x + ", " + y + ", " + down + ")",
                        () -> stage.pointer(x, y, down), () -> model.pointer(x, y, down));
        }
    }

    private String reading(int kind) {
        int node = someNode();
        int what = below(9);
        switch (kind) {
            case 0:
                return same("place(" + node + ", " + what % 4 + ")", () -> stage.place(node, what % 4),
                        () -> model.place(node, what % 4));
            case 1:
                double x = measure(30);
                double y = measure(30);
                return same("hit(" + x + ", " + y + ")", () -> stage.hit(x, y), () -> model.hit(x, y));
            case 2:
                return same("node(" + node + ", " + what + ")", () -> stage.node(node, what), () -> model.node(node, what));
            case 3:
                return same("child(" + node + ", " + what + ")", () -> stage.child(node, what), () -> model.child(node, what));
            default:
                return sameCallsAndLooks();
        }
    }

    private String sameCallsAndLooks() {
        for (int what = -1; what <= 6; what++) {
            int w = what;
            String told = same("look(" + w + ")", () -> stage.look(w), () -> model.look(w));
            for (int k = -1; k <= 32 && told == null; k++) {
                int back = k;
                told = same("call(" + k + ", " + w + ")", () -> stage.call(back, w), () -> model.call(back, w));
            }
            if (told != null) {
                return told;
            }
        }
        for (int k = 0; k < 24; k++) {
            int node = k;
            String told = same("node(" + node + ", 6)", () -> stage.node(node, 6), () -> model.node(node, 6));
            if (told != null) {
                return told;
            }
        }
        return null;
    }

    private static Object nothing(Runnable run) {
        run.run();
        return "nothing";
    }

    private static String same(String call, Supplier<Object> got, Supplier<Object> want) {
        String answer = answerOf(got);
        String due = answerOf(want);
        return answer.equals(due) ? null : call + " answered " + answer + ", due is " + due;
    }

    private static String answerOf(Supplier<Object> call) {
        try {
            return String.valueOf(call.get());
        } catch (RuntimeException e) {
            // Only the exceptions that the document names, not classes below them.
            Class<?> c = e.getClass();
            boolean isNamed = c == IndexOutOfBoundsException.class || c == IllegalArgumentException.class
                    || c == NoSuchElementException.class;
            return (isNamed ? "throws." : "throws by itself ") + c.getSimpleName();
        }
    }
}
