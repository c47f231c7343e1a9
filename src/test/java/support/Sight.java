import java.util.function.Supplier;

/**
 * All that can be told of a stage's state, as one text: what it answers, and how it goes on from
 * there. Each part looks at a new stage, because looking changes it, and because the document
 * promises nothing of an object after its 512th call.
 */
final class Sight {
    private static final int MOST_NODES = 24;
    private final Supplier<NodeStage> making;
    private final StringBuilder text = new StringBuilder();

    private Sight(Supplier<NodeStage> making) {
        this.making = making;
    }

    static String of(Supplier<NodeStage> making) {
        Sight sight = new Sight(making);
        sight.tellNodes();
        sight.tellCalls();
        sight.tellBoxes();
        sight.tellRemovedListeners();
        sight.tellDispatchings();
        sight.tellScripts();
        sight.tellPointer();
        sight.tellRoom();
        return sight.text.toString();
    }

    private void tell(String what) {
        text.append('\n').append(what).append(':');
    }

    private void add(Object answer) {
        text.append(' ').append(answer);
    }

    private void tellNodes() {
        NodeStage x = making.get();
        tell("look");
        for (int what = 0; what <= 5; what++) {
            add(x.look(what));
        }
        for (int node = 0; node < MOST_NODES; node++) {
            tell("node " + node);
            for (int what = 0; what <= 7; what++) {
                add(x.node(node, what));
            }
            for (int k = 0; k < x.node(node, 5); k++) {
                add(x.child(node, k));
            }
        }
    }

    private void tellCalls() {
        NodeStage x = making.get();
        for (int k = 0; k < 32; k++) {
            tell("call " + k);
            for (int what = 0; what <= 4; what++) {
                add(x.call(k, what));
            }
        }
    }

    private void tellBoxes() {
        NodeStage x = making.get();
        for (int node = 0; node < MOST_NODES; node++) {
            tell("box " + node);
            for (int what = 0; what <= 2; what++) {
                add(new Call("place", node, what).on(x));
            }
        }
        for (double y = -5; y <= 55; y += 2.5) {
            NodeStage row = making.get();
            tell("hits at y = " + y);
            for (double at = -5; at <= 55; at += 2.5) {
                add(row.hit(at, y));
            }
        }
    }

    private void tellRemovedListeners() {
        NodeStage x = making.get();
        tell("unlisten");
        for (int listener = 0; listener < 40; listener++) {
            add(x.unlisten(listener));
        }
    }

    private void tellDispatchings() {
        for (int type = 0; type <= 7; type++) {
            NodeStage x = making.get();
            int nodes = x.look(0);
            for (int node = 0; node < nodes; node++) {
                tell("dispatch of " + type + " at " + node);
                add(x.dispatch(node, type, 7));
                add(x.look(2));
                add(x.look(3));
                for (int what = 0; what <= 4; what++) {
                    add(x.call(0, what));
                }
            }
            tellTree(x);
        }
    }

    /** The parents and marks, which scripts change. */
    private void tellTree(NodeStage x) {
        tell("tree behind that");
        for (int node = 0; node < MOST_NODES; node++) {
            add(x.node(node, 1));
            add(x.node(node, 6));
        }
    }

    private void tellScripts() {
        for (int script = 0; script <= 7; script++) {
            NodeStage x = making.get();
            tell("script " + script);
            add(x.listen(0, 7, 0, script));
            add(x.dispatch(0, 7, 3));
            for (int what = 1; what <= 3; what++) {
                add(x.look(what));
            }
            tellTree(x);
            tell("room in script " + script);
            while (x.command(script, 0, 0)) {
                add("command");
            }
        }
    }

    private void tellPointer() {
        double[] points = {7, 30, -900};
        for (double at : points) {
            for (boolean down : new boolean[] {true, false}) {
                NodeStage x = making.get();
                tell("pointer at " + at + (down ? " down" : " up"));
                add(x.pointer(at, at, down));
                add(x.look(4));
                add(x.look(5));
                add(x.pointer(at, at, !down));
                add(x.look(2));
            }
        }
    }

    private void tellRoom() {
        NodeStage x = making.get();
        tell("attach");
        for (int host = 0; host < MOST_NODES; host++) {
            add(x.attach(host));
        }
        x = making.get();
        tell("room for nodes");
        while (x.make(1, 0) != -1) {
            add("make");
        }
        x = making.get();
        tell("room for listeners");
        for (int k = 0; k <= 40; k++) {
            add(x.listen(0, k % 8, k / 8 % 2, k / 16));
        }
    }
}
