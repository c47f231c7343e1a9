import java.util.NoSuchElementException;

/** Promises 1 to 5, 16 and 17: nodes, shadows, slots and where they stand. */
public final class TreeTest {
    private static final Due due = new Due();

    public static void main(String[] args) {
        newObject();
        make();
        attach();
        attachWhenFull();
        insertInOrder();
        insertMovesWithinParent();
        insertIntoEveryKind();
        insertOutOfBounds();
        insertNotAllowed();
        insertBeforeNoChild();
        remove();
        assignedSlots();
        nodeFacts();
        children();
        due.end();
    }

    private static String childrenOf(NodeStage x, int node) {
        StringBuilder text = new StringBuilder();
        for (int k = 0; k < x.node(node, 5); k++) {
            text.append(k == 0 ? "" : " ").append(x.child(node, k));
        }
        return text.toString();
    }

    private static NodeStage stageOf(int... kinds) {
        NodeStage x = new NodeStage();
        for (int kind : kinds) {
            if (kind == 4) {
                x.attach(x.look(0) - 1);
            } else {
                x.make(kind, 0);
            }
        }
        return x;
    }

    private static void newObject() {
        NodeStage x = new NodeStage();
        int[] looks = {1, 0, 0, 0, -1, -1};
        for (int what = 0; what < looks.length; what++) {
            due.is("new: look(" + what + ")", x.look(what), looks[what]);
        }
        int[] facts = {3, -1, -1, -1, -1, 0, 0, 0};
        for (int what = 0; what < facts.length; what++) {
            due.is("new: node(0, " + what + ")", x.node(0, what), facts[what]);
        }
        due.is("new: child(0, 0)", x.child(0, 0), -1);
        due.is("new: node(1, 0)", x.node(1, 0), -1);
        due.is("new: call(0, 0)", x.call(0, 0), -1);
        due.is("new: hit(0, 0)", x.hit(0, 0), -1);
        due.is("new: unlisten(0)", x.unlisten(0), false);
        due.is("new: command takes five", x.command(7, 0, 0) && x.command(7, 0, 0) && x.command(7, 0, 0)
                && x.command(7, 0, 0) && x.command(7, 0, 0), true);
    }

    private static void make() {
        NodeStage x = new NodeStage();
        for (int kind = 0; kind <= 2; kind++) {
            due.is("make(" + kind + ", 3)", x.make(kind, 3), kind + 1);
            due.is("kind of it", x.node(kind + 1, 0), kind);
            due.is("parent of it", x.node(kind + 1, 1), -1);
            due.is("root of it", x.node(kind + 1, 7), kind + 1);
            due.is("mark of it", x.node(kind + 1, 6), 0);
        }
        int[][] wrong = {{-1, 0}, {3, 0}, {4, 0}, {0, -1}, {0, 4}, {Integer.MIN_VALUE, 0}, {0, Integer.MAX_VALUE}};
        for (int[] w : wrong) {
            due.isRefused("make(" + w[0] + ", " + w[1] + ")", x, () -> x.make(w[0], w[1]), -1);
        }
        for (int number = 4; number < 24; number++) {
            due.is("make number " + number, x.make(0, 0), number);
        }
        due.is("look(0) when full", x.look(0), 24);
        due.isRefused("make when 24 are there", x, () -> x.make(0, 0), -1);
    }

    private static void attach() {
        NodeStage x = stageOf(0, 1, 2);
        due.is("attach(1)", x.attach(1), 4);
        due.is("kind of the shadow", x.node(4, 0), 4);
        due.is("host of the shadow", x.node(4, 4), 1);
        due.is("shadow of the host", x.node(1, 3), 4);
        due.is("parent of the shadow", x.node(4, 1), -1);
        due.is("root of the shadow", x.node(4, 7), 4);
        due.is("children of the host", x.node(1, 5), 0);
        for (int host : new int[] {1, 0, 2, 3, 4, 5, -1, 24, Integer.MIN_VALUE, Integer.MAX_VALUE}) {
            due.isRefused("attach(" + host + ")", x, () -> x.attach(host), -1);
        }
    }

    private static void attachWhenFull() {
        NodeStage x = new NodeStage();
        for (int k = 1; k < 23; k++) {
            x.make(0, 0);
        }
        due.is("attach as the last one", x.attach(5), 23);
        due.isRefused("attach when 24 are there", x, () -> x.attach(6), -1);
    }

    private static void insertInOrder() {
        NodeStage x = stageOf(0, 0, 0, 0);
        x.insert(0, 1, -1);
        x.insert(0, 2, -1);
        due.is("inserted at the end", childrenOf(x, 0), "1 2");
        x.insert(0, 3, 1);
        due.is("inserted at the front", childrenOf(x, 0), "3 1 2");
        x.insert(0, 4, 2);
        due.is("inserted between", childrenOf(x, 0), "3 1 4 2");
        x.insert(1, 4, -1);
        due.is("it leaves its old place", childrenOf(x, 0), "3 1 2");
        due.is("it has its new place", childrenOf(x, 1), "4");
        due.is("its parent", x.node(4, 1), 1);
        due.is("its root", x.node(4, 7), 0);
    }

    private static void insertMovesWithinParent() {
        NodeStage x = stageOf(0, 0, 0);
        for (int k = 1; k <= 3; k++) {
            x.insert(0, k, -1);
        }
        x.insert(0, 1, 2);
        due.is("before the one behind it", childrenOf(x, 0), "1 2 3");
        x.insert(0, 1, 3);
        due.is("before the last one", childrenOf(x, 0), "2 1 3");
        x.insert(0, 3, 2);
        due.is("the last one to the front", childrenOf(x, 0), "3 2 1");
        x.insert(0, 3, -1);
        due.is("the first one to the end", childrenOf(x, 0), "2 1 3");
        x.insert(0, 3, -1);
        due.is("the last one to the end", childrenOf(x, 0), "2 1 3");
    }

    private static void insertIntoEveryKind() {
        NodeStage x = stageOf(0, 4, 1, 2, 0);
        for (int parent = 0; parent <= 4; parent++) {
            x.insert(parent, 5, -1);
            due.is("parent after insert(" + parent + ", 5, -1)", x.node(5, 1), parent);
            due.is("children of " + parent, childrenOf(x, parent), "5");
        }
    }

    private static void insertOutOfBounds() {
        NodeStage x = stageOf(0, 0);
        int[][] wrong = {{-1, 1, -1}, {3, 1, -1}, {0, -1, -1}, {0, 3, -1}, {0, 1, -2}, {0, 1, 3}, {24, 1, -1},
            {0, 24, -1}, {0, 1, 24}, {0, 0, 3}, {1, 1, -2}, {Integer.MIN_VALUE, 1, -1},
            {0, Integer.MAX_VALUE, -1}, {0, 1, Integer.MIN_VALUE}, {0, 1, Integer.MAX_VALUE}};
        for (int[] w : wrong) {
            due.isThrown("insert(" + w[0] + ", " + w[1] + ", " + w[2] + ")", x, IndexOutOfBoundsException.class,
                    () -> x.insert(w[0], w[1], w[2]));
        }
    }

    private static void insertNotAllowed() {
        // 0 holds 1, a host with the shadow 2; the shadow holds 3, it holds 4, a host with the shadow 5.
        NodeStage x = stageOf(0, 4, 0, 0, 4, 0);
        x.insert(0, 1, -1);
        x.insert(2, 3, -1);
        x.insert(3, 4, -1);
        x.insert(5, 6, -1);
        int[][] wrong = {{1, 1, -1}, {4, 3, -1}, {2, 1, -1}, {3, 1, -1}, {5, 4, -1}, {6, 1, -1}, {6, 3, -1},
            {1, 0, -1}, {0, 2, -1}, {0, 5, -1}, {1, 2, -1}, {0, 1, 1}, {0, 3, 3}, {0, 0, -1}, {3, 3, 4},
            {5, 3, 1}};
        for (int[] w : wrong) {
            due.isThrown("insert(" + w[0] + ", " + w[1] + ", " + w[2] + ")", x, IllegalArgumentException.class,
                    () -> x.insert(w[0], w[1], w[2]));
        }
        x.insert(1, 6, -1);
        due.is("what is below may go up", x.node(6, 1), 1);
    }

    private static void insertBeforeNoChild() {
        NodeStage x = stageOf(0, 4, 0, 0, 0);
        x.insert(0, 1, -1);
        x.insert(2, 3, -1);
        x.insert(1, 4, -1);
        int[][] wrong = {{0, 5, 3}, {0, 5, 4}, {1, 5, 3}, {1, 5, 2}, {0, 5, 0}, {0, 5, 2}, {4, 5, 1}, {0, 3, 4}};
        for (int[] w : wrong) {
            due.isThrown("insert(" + w[0] + ", " + w[1] + ", " + w[2] + ")", x, NoSuchElementException.class,
                    () -> x.insert(w[0], w[1], w[2]));
        }
    }

    private static void remove() {
        NodeStage x = stageOf(0, 4, 0, 0, 0);
        x.insert(0, 1, -1);
        for (int k = 3; k <= 5; k++) {
            x.insert(1, k, -1);
        }
        due.is("remove(4), the middle one", x.remove(4), true);
        due.is("children then", childrenOf(x, 1), "3 5");
        due.is("remove(3), the first one", x.remove(3), true);
        due.is("children then", childrenOf(x, 1), "5");
        due.is("remove(5), the last one", x.remove(5), true);
        due.is("children then", childrenOf(x, 1), "");
        due.is("parent of what is out", x.node(5, 1), -1);
        x.insert(1, 4, -1);
        x.insert(1, 3, 4);
        due.is("children of the refilled one", childrenOf(x, 1), "3 4");
        due.is("remove(1) with what is below", x.remove(1), true);
        due.is("root of what is below", x.node(3, 7), 1);
        for (int node : new int[] {0, 1, 2, 5, 6, -1, 24, Integer.MIN_VALUE, Integer.MAX_VALUE}) {
            due.isRefused("remove(" + node + ")", x, () -> x.remove(node), false);
        }
    }

    private static void assignedSlots() {
        NodeStage x = new NodeStage();
        x.make(0, 0);
        x.attach(1);
        x.make(0, 1);
        x.make(1, 1);
        x.make(1, 1);
        x.make(0, 1);
        x.make(1, 0);
        x.insert(1, 3, -1);
        due.is("without a slot", x.node(3, 2), -1);
        x.insert(2, 4, -1);
        due.is("the one slot", x.node(3, 2), 4);
        x.insert(2, 6, 4);
        x.insert(6, 5, -1);
        due.is("the first in tree order is deeper", x.node(3, 2), 5);
        x.insert(2, 6, -1);
        due.is("the first in tree order is higher", x.node(3, 2), 4);
        x.remove(4);
        due.is("the next one in its place", x.node(3, 2), 5);
        x.insert(5, 4, -1);
        due.is("a slot in a slot is behind it", x.node(3, 2), 5);
        x.remove(6);
        due.is("no slot any more", x.node(3, 2), -1);
        x.insert(2, 7, -1);
        due.is("a slot of another name", x.node(3, 2), -1);
        x.insert(1, 4, -1);
        due.is("a slot among the children is none below the shadow", x.node(3, 2), -1);
        x.insert(2, 6, -1);
        due.is("a slot may be assigned itself", x.node(4, 2), 5);
        due.is("what has no parent with a shadow", x.node(5, 2), -1);
        x.insert(6, 3, -1);
        due.is("a grandchild of the shadow", x.node(3, 2), -1);
        nestedShadowHoldsNoSlot();
    }

    private static void nestedShadowHoldsNoSlot() {
        // The slot 5 is in the shadow 4 of 3, which is below the shadow 2, but not in its tree.
        NodeStage x = stageOf(0, 4, 0, 4, 1, 0);
        x.insert(2, 3, -1);
        x.insert(4, 5, -1);
        x.insert(1, 6, -1);
        due.is("a slot in a shadow below the shadow", x.node(6, 2), -1);
    }

    private static void nodeFacts() {
        NodeStage x = stageOf(0, 4, 2);
        x.insert(2, 3, -1);
        int[][] facts = {{3, -1, -1, -1, -1, 0, 0, 0}, {0, -1, -1, 2, -1, 0, 0, 1},
            {4, -1, -1, -1, 1, 1, 0, 2}, {2, 2, -1, -1, -1, 0, 0, 2}};
        for (int node = 0; node < facts.length; node++) {
            for (int what = 0; what < 8; what++) {
                due.is("node(" + node + ", " + what + ")", x.node(node, what), facts[node][what]);
            }
            due.is("node(" + node + ", -1)", x.node(node, -1), -1);
            due.is("node(" + node + ", 8)", x.node(node, 8), -1);
        }
        x.dispatch(3, 0, 0);
        due.is("node(3, 6) with its mark on", x.node(3, 6), 1);
        for (int node : new int[] {-1, 4, 24, Integer.MIN_VALUE, Integer.MAX_VALUE}) {
            for (int what = -1; what <= 8; what++) {
                due.is("node(" + node + ", " + what + ")", x.node(node, what), -1);
            }
        }
    }

    private static void children() {
        NodeStage x = stageOf(0, 4, 0, 0, 0);
        x.insert(0, 1, -1);
        x.insert(1, 3, -1);
        x.insert(1, 4, -1);
        x.insert(2, 5, -1);
        int[][] asked = {{0, 0, 1}, {1, 0, 3}, {1, 1, 4}, {2, 0, 5}, {0, 1, -1}, {1, 2, -1}, {1, -1, -1},
            {3, 0, -1}, {6, 0, -1}, {-1, 0, -1}, {24, 0, -1}, {1, Integer.MAX_VALUE, -1},
            {1, Integer.MIN_VALUE, -1}, {Integer.MAX_VALUE, 0, -1}, {Integer.MIN_VALUE, 0, -1}};
        for (int[] a : asked) {
            due.is("child(" + a[0] + ", " + a[1] + ")", x.child(a[0], a[1]), a[2]);
        }
    }
}
