/** Compares answers with those that are due, prints those that differ and counts them. */
final class Due {
    private int asked;
    private int wrong;

    void is(String call, long got, long want) {
        compare(call, String.valueOf(got), String.valueOf(want));
    }

    void is(String call, boolean got, boolean want) {
        compare(call, String.valueOf(got), String.valueOf(want));
    }

    /** Tells 0.0 and -0.0 apart. */
    void is(String call, double got, double want) {
        compare(call, String.valueOf(got), String.valueOf(want));
    }

    void is(String call, String got, String want) {
        compare(call, got, want);
    }

    /** The call must throw just that exception and change nothing that can be seen of the stage. */
    void isThrown(String call, NodeStage stage, Class<? extends RuntimeException> want, Runnable run) {
        String before = Sight.of(stage);
        compare(call, thrownBy(run), want.getSimpleName());
        compare("what is seen after " + call, Sight.of(stage), before);
    }

    /** The call must answer so and change nothing that can be seen of the stage. */
    void isRefused(String call, NodeStage stage, java.util.function.Supplier<Object> run, Object want) {
        String before = Sight.of(stage);
        compare(call, String.valueOf(run.get()), String.valueOf(want));
        compare("what is seen after " + call, Sight.of(stage), before);
    }

    static String thrownBy(Runnable run) {
        try {
            run.run();
            return "nothing";
        } catch (RuntimeException e) {
            return e.getClass().getSimpleName();
        }
    }

    void end() {
        System.out.println(wrong == 0 ? asked + " answers are as due" : wrong + " of " + asked + " answers are not as due");
        if (wrong != 0 || asked == 0) {
            System.exit(1);
        }
    }

    private void compare(String call, String got, String want) {
        asked++;
        if (!got.equals(want)) {
            wrong++;
            System.out.println(call + " answered " + got + ", due is " + want);
        }
    }
}
