/** Promises 16 to 19 at their edges, and the last call that an object is good for. */
public final class ReadingEdgesTest {
    private static final Due due = new Due();

    public static void main(String[] args) {
        nodesThatAreThere();
        factsOfNodes();
        factsThatAreWithout();
        marksOnAndOff();
        childrenThatAreThere();
        childrenOfNodesThatAreThere();
        callsThatWere();
        callsKept();
        callsWrapAround();
        callsBackAndNoFarther();
        factsOfCalls();
        looks();
        looksWithoutPointer();
        listenersAreCountedWithRemovedOnes();
        lastCallOfAnObject();
        readingChangesNothing();
        due.end();
    }

    private static void nodesThatAreThere() {
        due.about("Promise 16: -1 if there is no such node");
        for (int what = 0; what <= 7; what++) {
            for (int node : Due.outside(0, Scene.LAST_NODE)) {
                due.taken(Scene::busy, -1, "node", node, what);
            }
            due.taken(Scene::fullOfNodes, -1, "node", 24, what);
        }
        due.taken(Scene::busy, 3, "node", 0, 0);
        due.taken(Scene::busy, 0, "node", Scene.LAST_NODE, 0);
        due.taken(Scene::fullOfNodes, 0, "node", 23, 0);
        due.taken(Scene::fullOfNodes, 23, "node", 23, 7);
    }

    private static void factsOfNodes() {
        due.about("Promise 16: -1 if there is no such what");
        for (int what : Due.outside(0, 7)) {
            for (int node = 0; node <= Scene.LAST_NODE; node++) {
                due.taken(Scene::busy, -1, "node", node, what);
            }
        }
        due.taken(Scene::busy, 2, "node", 5, 0);
        due.taken(Scene::busy, 0, "node", 5, 7);
    }

    private static void factsThatAreWithout() {
        due.about("Promise 16: -1 without, and for 2 to 4 where there is none");
        int[][] facts = {{3, -1, -1, -1, -1, 2}, {0, 0, -1, 2, -1, 2}, {4, -1, -1, -1, 1, 1}, {1, 2, -1, -1, -1, 0},
            {0, 1, 3, -1, -1, 0}, {2, 1, -1, -1, -1, 0}, {0, 0, -1, -1, -1, 0}, {0, -1, -1, -1, -1, 1}, {0, 7, -1, -1, -1, 0}};
        NodeStage x = Scene.busy();
        for (int node = 0; node < facts.length; node++) {
            for (int what = 0; what < facts[node].length; what++) {
                due.is("node(" + node + ", " + what + ")", x.node(node, what), facts[node][what]);
            }
        }
    }

    private static void marksOnAndOff() {
        due.about("Promise 16: 1 if its mark is on (6)");
        NodeStage x = Scene.busy();
        due.is("on", x.node(5, 6), 1);
        x.dispatch(5, 0, 0);
        due.is("off", x.node(5, 6), 0);
        for (int node : new int[] {0, 1, 2, 3, 4, 6, 7, 8}) {
            due.is("node(" + node + ", 6)", x.node(node, 6), 0);
        }
    }

    private static void childrenThatAreThere() {
        due.about("Promise 17: child k of a node; -1 if there is none");
        NodeStage x = Scene.busy();
        due.is("the first", x.child(1, 0), 4);
        due.is("the last", x.child(1, 1), 5);
        for (int k : Due.outside(0, 1)) {
            due.is("child(1, " + k + ")", x.child(1, k), -1);
        }
        for (int k : new int[] {-1, 0, 1}) {
            due.is("child(4, " + k + "), of one without children", x.child(4, k), -1);
        }
        due.is("a shadow's child", x.child(2, 0), 3);
        NodeStage y = Scene.fullOfNodes();
        for (int k = 9; k <= 23; k++) {
            y.insert(8, k, -1);
        }
        due.is("child(8, 14), the last of many", y.child(8, 14), 23);
        due.is("child(8, 15)", y.child(8, 15), -1);
    }

    private static void childrenOfNodesThatAreThere() {
        due.about("Promise 17: -1 if there is none, because there is no such node");
        for (int node : Due.outside(0, Scene.LAST_NODE)) {
            due.taken(Scene::busy, -1, "child", node, 0);
        }
        due.taken(Scene::fullOfNodes, -1, "child", 24, 0);
        due.taken(Scene::busy, 1, "child", 0, 0);
        due.taken(() -> Scene.chain(23), 23, "child", 22, 0);
        due.taken(() -> Scene.chain(23), -1, "child", 23, 0);
    }

    /** The document hears types 0 to 7 with listeners 0 to 7, and has heard 0, 1, .. 7, 0, .. so many times. */
    private static NodeStage heard(int times) {
        NodeStage x = new NodeStage();
        for (int type = 0; type < 8; type++) {
            x.listen(0, type, 0, 0);
        }
        for (int k = 0; k < times; k++) {
            x.dispatch(0, k % 8, 0);
        }
        return x;
    }

    private static void callsThatWere() {
        due.about("Promise 18: -1 if there were not so many");
        for (int times : new int[] {0, 1, 2, 30, 31}) {
            NodeStage x = heard(times);
            for (int what = 0; what <= 4; what++) {
                due.is("call(" + times + ", " + what + ") after " + times, x.call(times, what), -1);
            }
            due.is("call(31, 0) after " + times, x.call(31, 0), -1);
            if (times > 0) {
                due.is("the first after " + times, x.call(times - 1, 4), 0);
            }
        }
    }

    private static void callsKept() {
        due.about("Promise 18: the call k before the latest one (0: the latest, up to 31)");
        for (int times : new int[] {32, 33, 40, 63, 64, 65, 100}) {
            NodeStage x = heard(times);
            for (int k = 0; k <= 31; k++) {
                int want = (times - 1 - k) % 8;
                due.is("call(" + k + ", 0) after " + times, x.call(k, 0), want);
                due.is("call(" + k + ", 4) after " + times, x.call(k, 4), want);
            }
        }
    }

    private static void callsWrapAround() {
        due.about("Promise 18: the call k before the latest one, of many that one call of the class made");
        // Each of the listeners 0 to 7 is called once in each of the fifteen events.
        NodeStage x = new NodeStage();
        for (int script = 0; script < 8; script++) {
            x.listen(0, 1, 0, script);
        }
        for (int k = 0; k < 15; k++) {
            x.dispatch(0, 1, 0);
            for (int back = 0; back < 8; back++) {
                due.is("call(" + back + ", 0) after " + k, x.call(back, 0), 7 - back);
            }
        }
        due.is("calls ever", x.look(2), 120);
        due.is("the one 31 before", x.call(31, 0), 0);
        due.is("the one 32 before", x.call(32, 0), -1);
    }

    private static void callsBackAndNoFarther() {
        due.about("Promise 18: -1 for another k");
        for (int times : new int[] {0, 31, 32, 33, 64, 100}) {
            NodeStage x = heard(times);
            for (int k : Due.outside(0, 31)) {
                for (int what = 0; what <= 4; what++) {
                    due.is("call(" + k + ", " + what + ") after " + times, x.call(k, what), -1);
                }
            }
        }
    }

    private static void factsOfCalls() {
        due.about("Promise 18: -1 for another what");
        // The host 1's shadow 2 hears at its child 3: listener, node, target, phase and type all differ.
        NodeStage x = new NodeStage();
        x.make(0, 0);
        x.attach(1);
        x.make(0, 0);
        x.insert(2, 3, -1);
        x.listen(0, 0, 0, 0);
        x.listen(2, 7, 1, 0);
        x.dispatch(3, 7, 0);
        int[] facts = {1, 2, 3, 1, 7};
        for (int what = 0; what < facts.length; what++) {
            due.is("call(0, " + what + ")", x.call(0, what), facts[what]);
        }
        for (int what : Due.outside(0, 4)) {
            due.is("call(0, " + what + ")", x.call(0, what), -1);
        }
        NodeStage y = heard(40);
        for (int what : Due.outside(0, 4)) {
            for (int k = 0; k <= 31; k++) {
                due.is("call(" + k + ", " + what + ") of many", y.call(k, what), -1);
            }
        }
    }

    private static void looks() {
        due.about("Promise 19: -1 for another what");
        int[] busy = {9, 7, 4, 1, 4, 4};
        NodeStage x = Scene.busy();
        for (int what = 0; what < busy.length; what++) {
            due.is("look(" + what + ")", x.look(what), busy[what]);
        }
        for (int what : Due.outside(0, 5)) {
            due.is("look(" + what + ")", x.look(what), -1);
            due.taken(NodeStage::new, -1, "look", what);
        }
    }

    private static void looksWithoutPointer() {
        due.about("Promise 19: the node the pointer is OVER (4), and PRESSED (5), -1 without");
        NodeStage x = Scene.busy();
        x.pointer(-900, -900, true);
        due.is("over nothing", x.look(4), -1);
        due.is("pressed", x.look(5), 4);
        x.pointer(7, 7, false);
        due.is("over", x.look(4), 4);
        due.is("pressed nothing", x.look(5), -1);
        due.taken(NodeStage::new, -1, "look", 4);
        due.taken(NodeStage::new, -1, "look", 5);
    }

    private static void listenersAreCountedWithRemovedOnes() {
        due.about("Promise 19: how many listeners there are (1), REMOVED or not");
        NodeStage x = Scene.fullOfListeners();
        due.is("full", x.look(1), 40);
        for (int listener = 0; listener < 40; listener++) {
            x.unlisten(listener);
        }
        due.is("all removed", x.look(1), 40);
        due.taken(() -> Scene.withListeners(39), 39, "look", 1);
    }

    private static void lastCallOfAnObject() {
        due.about("What it is: an object is used for at most 512 calls after it has been made");
        // Two calls, 500 dispatchings, five calls that look, and then the last five.
        NodeStage x = new NodeStage();
        x.command(0, 6, 0);
        x.listen(0, 1, 0, 0);
        for (int k = 0; k < 500; k++) {
            x.dispatch(0, 1, 3);
        }
        int[] facts = {0, 0, 0, 2, 1};
        for (int what = 0; what < facts.length; what++) {
            due.is("call(31, " + what + ")", x.call(31, what), facts[what]);
        }
        due.is("call 508: nodes", x.look(0), 1);
        due.is("call 509: listeners", x.look(1), 1);
        due.is("call 510: make", x.make(0, 0), 1);
        due.is("call 511: calls ever", x.look(2), 500);
        due.is("call 512: errors", x.look(3), 500);
    }

    private static void readingChangesNothing() {
        due.about("What throws or is refused changes nothing: nor does what only looks");
        due.alike("after looking", () -> {
            NodeStage x = Scene.busy();
            for (int k = -2; k <= 9; k++) {
                x.look(k);
                x.node(k, 2);
                x.child(1, k);
                x.call(k, 0);
                x.hit(5 * k, 5 * k);
                new Call("place", k, 0).on(x);
            }
            return x;
        }, Scene::busy);
    }
}
