/** The calls of listeners that are written down, as a text. */
final class Heard {
    private Heard() {
    }

    /** The latest calls, the oldest of them first, each as listener@node>target/phase. */
    static String latest(NodeStage x, int count) {
        StringBuilder text = new StringBuilder();
        for (int k = count - 1; k >= 0; k--) {
            text.append(k == count - 1 ? "" : " ").append(x.call(k, 0)).append('@').append(x.call(k, 1));
            text.append('>').append(x.call(k, 2)).append('/').append(x.call(k, 3));
        }
        return text.toString();
    }

    /** The calls that a dispatching makes, if they are not more than are kept. */
    static String of(NodeStage x, int node, int type, int flags) {
        int before = x.look(2);
        x.dispatch(node, type, flags);
        return latest(x, x.look(2) - before);
    }

    /** The number of events that putting the pointer to x = at, y = 5 makes, then the calls, each as type@node. */
    static String ofPointer(NodeStage x, double at, boolean down) {
        int before = x.look(2);
        StringBuilder text = new StringBuilder().append(x.pointer(at, 5, down));
        for (int k = x.look(2) - before - 1; k >= 0; k--) {
            text.append(' ').append(x.call(k, 4)).append('@').append(x.call(k, 1));
        }
        return text.toString();
    }

    /** Every node hears the type with the empty script 0: listener k is at node k if there were none. */
    static void everywhere(NodeStage x, int type, int options) {
        for (int node = 0; node < x.look(0); node++) {
            x.listen(node, type, options, 0);
        }
    }
}
