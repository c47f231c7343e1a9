import java.util.Random;

/** All promises: long runs of calls, good and wrong ones, on the class and on the plain model at once. */
public final class ModelTest {
    private static final int RUNS = 4000;
    // The document promises nothing of an object after so many calls.
    private static final int MOST_CALLS = 512;
    private static final int CALLS_OF_LAST_LOOK = 6 + 24 * 3 + 32 * 5;
    private static final int[] FAR = {-2, -1, 8, 9, 24, 25, 40, 41, Integer.MIN_VALUE, Integer.MAX_VALUE};
    private static final double[] FAR_DOUBLES = {Double.NaN, Double.POSITIVE_INFINITY, Double.NEGATIVE_INFINITY, -0.0, 0.0,
        1000, -1000, 1000.5, -1000.5, Double.MIN_VALUE, Double.MAX_VALUE, 0.125, 4, 0.1, 5};

    private final Random random;
    private final NodeStage stage = new NodeStage();
    private final Model model = new Model();
    private int calls;
    private String wrong;

    private ModelTest(long seed) {
        random = new Random(seed);
    }

    public static void main(String[] args) {
        Watch.begin();
        long calls = 0;
        int wrong = 0;
        for (int seed = 0; seed < RUNS && wrong < 5; seed++) {
            ModelTest test = new ModelTest(seed);
            test.run(seed % 4 == 0 ? MOST_CALLS : MOST_CALLS - CALLS_OF_LAST_LOOK);
            calls += test.calls;
            if (test.wrong != null) {
                System.out.println("run " + seed + ", call " + test.calls + ": " + test.wrong);
                wrong++;
            }
        }
        System.out.println(calls + " calls compared with the model, " + wrong + " runs with a wrong answer");
        if (wrong != 0) {
            System.exit(1);
        }
    }

    private void run(int steps) {
        while (wrong == null && calls < steps) {
            step();
        }
        if (calls + CALLS_OF_LAST_LOOK <= MOST_CALLS) {
            lastLook();
        }
    }

    private int below(int bound) {
        return random.nextInt(60) == 0 ? FAR[random.nextInt(FAR.length)] : random.nextInt(bound);
    }

    private int someNode() {
        return below(model.look(0));
    }

    private double measure(int bound) {
        return random.nextInt(60) == 0 ? FAR_DOUBLES[random.nextInt(FAR_DOUBLES.length)]
                : random.nextInt(2) == 0 ? random.nextInt(bound) : random.nextDouble() * bound;
    }

    private void step() {
        int kind = calls < 30 ? random.nextInt(4) : random.nextInt(40);
        if (kind < 20) {
            if (calls < 30 || random.nextInt(3) == 0) {
                build(kind % 4);
            } else {
                listening(kind % 5);
            }
        } else if (kind < 32) {
            acting(kind % 6);
        } else {
            reading(kind % 6);
        }
    }

    private void build(int kind) {
        int a = someNode();
        int b = someNode();
        if (kind == 0) {
            same("make", below(3), below(random.nextInt(2) == 0 ? 1 : 4));
        } else if (kind == 1) {
            same("attach", a);
        } else if (kind == 2 || random.nextInt(4) != 0) {
            int c = random.nextInt(3) != 0 ? -1 : random.nextInt(2) == 0 ? someNode() : model.child(a, random.nextInt(3));
            same("insert", a, b, c);
        } else {
            same("remove", a);
        }
    }

    private void listening(int kind) {
        int script = below(8);
        if (kind <= 1) {
            int command = below(9);
            int n = command == 5 ? below(8) : command == 3 || command == 4 ? below(40) : someNode();
            same("command", script, command, n);
        } else if (kind == 2 && random.nextInt(6) == 0) {
            same("clear", script);
        } else if (kind == 4 && random.nextInt(8) == 0) {
            same("unlisten", below(40));
        } else {
            same("listen", someNode(), below(8), below(8), script);
        }
    }

    private void acting(int kind) {
        int node = someNode();
        double x = measure(30);
        double y = measure(30);
        if (kind <= 1) {
            same("dispatch", node, below(8), below(8));
        } else if (kind == 2) {
            same("box", node, x - 10, y - 10, measure(40), measure(40));
        } else if (kind == 3) {
            same("zoom", node, measure(5), below(3));
        } else {
            same("pointer", x, y, random.nextBoolean());
        }
    }

    private void reading(int kind) {
        int node = someNode();
        int what = below(9);
        if (kind == 0) {
            same("place", node, what % 4);
        } else if (kind == 1) {
            same("hit", measure(30), measure(30));
        } else if (kind == 2) {
            same("node", node, what);
        } else if (kind == 3) {
            same("child", node, what);
        } else if (kind == 4) {
            same("look", below(7));
        } else {
            same("call", below(33), below(6));
        }
    }

    private void lastLook() {
        for (int what = 0; what < 6; what++) {
            same("look", what);
        }
        for (int node = 0; node < 24; node++) {
            for (int what : new int[] {1, 2, 6}) {
                same("node", node, what);
            }
        }
        for (int k = 0; k < 32; k++) {
            for (int what = 0; what < 5; what++) {
                same("call", k, what);
            }
        }
    }

    private void same(String name, Object... args) {
        if (wrong != null) {
            return;
        }
        calls++;
        Call call = new Call(name, args);
        String answer = call.on(stage);
        String due = call.on(model);
        if (!answer.equals(due)) {
            wrong = call.told() + " answered " + answer + ", due is " + due;
        }
    }
}
