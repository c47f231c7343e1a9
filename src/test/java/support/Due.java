import java.util.LinkedHashSet;
import java.util.Set;
import java.util.function.Supplier;

/** Compares answers with those that are due, prints those that differ and counts them. */
final class Due {
    private final Set<String> sentences = new LinkedHashSet<>();
    private String sentence = "";
    private int asked;
    private int wrong;

    Due() {
        Watch.begin();
    }

    /** The sentence of the document that the answers from here on are about. */
    void about(String sentence) {
        this.sentence = sentence;
        if (!sentences.add(sentence)) {
            compare("a sentence that is told twice", sentence, "one of its own");
        }
    }

    void is(String call, long got, long want) {
        compare(call, String.valueOf(got), String.valueOf(want));
    }

    void is(String call, boolean got, boolean want) {
        compare(call, String.valueOf(got), String.valueOf(want));
    }

    /** Tells 0.0 and -0.0 apart. */
    void is(String call, double got, double want) {
        compare(call, String.valueOf(got), String.valueOf(want));
    }

    void is(String call, String got, String want) {
        compare(call, got, want);
    }

    /** The call, on a new stage of that scene, must answer so. */
    void taken(Supplier<NodeStage> scene, Object want, String name, Object... args) {
        Call call = new Call(name, args);
        compare(call.told(), call.on(scene.get()), String.valueOf(want));
    }

    /** The call must answer -1 or false and change nothing. */
    void refused(Supplier<NodeStage> scene, String name, Object... args) {
        Call call = new Call(name, args);
        unchanged(scene, call, call.refusal());
    }

    /** The call must throw just that exception and change nothing. */
    void thrown(Supplier<NodeStage> scene, Class<? extends RuntimeException> want, String name, Object... args) {
        unchanged(scene, new Call(name, args), "throws." + want.getSimpleName());
    }

    /** Both makings must lead to stages that nothing can tell apart. */
    void alike(String what, Supplier<NodeStage> making, Supplier<NodeStage> other) {
        String[] got = Sight.of(making).split("\n");
        String[] want = Sight.of(other).split("\n");
        for (int row = 0; row < got.length || row < want.length; row++) {
            String seen = row < got.length ? got[row] : "no more";
            String due = row < want.length ? want[row] : "no more";
            if (!seen.equals(due)) {
                compare(what, seen, due);
                return;
            }
        }
        compare(what, "alike", "alike");
    }

    /** Values on both sides of a range: the nearest that are not in it, and the farthest. */
    static int[] outside(int low, int high) {
        return new int[] {low - 1, high + 1, Integer.MIN_VALUE, Integer.MAX_VALUE};
    }

    void end() {
        String told = sentences.isEmpty() ? "" : ", on " + sentences.size() + " sentences of the document";
        String counted = wrong == 0 ? asked + " answers are as due" : wrong + " of " + asked + " answers are not as due";
        System.out.println(counted + told);
        if (wrong != 0 || asked == 0) {
            System.exit(1);
        }
    }

    private void unchanged(Supplier<NodeStage> scene, Call call, String want) {
        if (!compare(call.told(), call.on(scene.get()), want)) {
            // What it has changed may be out of all order, with no end to looking at it.
            return;
        }
        alike("what is seen after " + call.told(), () -> {
            NodeStage stage = scene.get();
            call.on(stage);
            return stage;
        }, scene);
    }

    private boolean compare(String call, String got, String want) {
        asked++;
        boolean isDue = got.equals(want);
        if (!isDue) {
            wrong++;
            String of = sentence.isEmpty() ? "" : "[" + sentence + "] ";
            System.out.println(of + call + " answered " + got + ", due is " + want);
        }
        return isDue;
    }
}
