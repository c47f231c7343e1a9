/** Promises 2 to 5, 16 and 17: nodes, shadows, slots and where they stand. */
public final class TreeTest {
    private static final Due due = new Due();

    public static void main(String[] args) {
        make();
        attach();
        insertInOrder();
        insertMovesWithinParent();
        insertIntoEveryKind();
        remove();
        removedForGood();
        assignedSlots();
        children();
        due.end();
    }

    private static String childrenOf(NodeStage x, int node) {
        StringBuilder text = new StringBuilder();
        for (int k = 0; k < x.node(node, 5); k++) {
            text.append(k == 0 ? "" : " ").append(x.child(node, k));
        }
        return text.toString();
    }

    private static NodeStage stageOf(int... kinds) {
        NodeStage x = new NodeStage();
        for (int kind : kinds) {
            if (kind == 4) {
                x.attach(x.look(0) - 1);
            } else {
                x.make(kind, 0);
            }
        }
        return x;
    }

    private static void make() {
        NodeStage x = new NodeStage();
        for (int kind = 0; kind <= 2; kind++) {
            due.is("make(" + kind + ", 3)", x.make(kind, 3), kind + 1);
            due.is("kind of it", x.node(kind + 1, 0), kind);
            due.is("parent of it", x.node(kind + 1, 1), -1);
            due.is("root of it", x.node(kind + 1, 7), kind + 1);
            due.is("mark of it", x.node(kind + 1, 6), 0);
        }
        due.is("nodes", x.look(0), 4);
    }

    private static void attach() {
        NodeStage x = stageOf(0, 1, 2);
        due.is("attach(1)", x.attach(1), 4);
        int[] facts = {4, -1, -1, -1, 1, 0, 0, 4};
        for (int what = 0; what < facts.length; what++) {
            due.is("node(4, " + what + ") of the shadow", x.node(4, what), facts[what]);
        }
        due.is("shadow of the host", x.node(1, 3), 4);
        due.is("children of the host", x.node(1, 5), 0);
    }

    private static void insertInOrder() {
        NodeStage x = stageOf(0, 0, 0, 0);
        x.insert(0, 1, -1);
        x.insert(0, 2, -1);
        due.is("inserted at the end", childrenOf(x, 0), "1 2");
        x.insert(0, 3, 1);
        due.is("inserted at the front", childrenOf(x, 0), "3 1 2");
        x.insert(0, 4, 2);
        due.is("inserted between", childrenOf(x, 0), "3 1 4 2");
        x.insert(1, 4, -1);
        due.is("it leaves its old place", childrenOf(x, 0), "3 1 2");
        due.is("it has its new place", childrenOf(x, 1), "4");
        due.is("its parent", x.node(4, 1), 1);
        due.is("its root", x.node(4, 7), 0);
    }

    private static void insertMovesWithinParent() {
        NodeStage x = stageOf(0, 0, 0);
        for (int k = 1; k <= 3; k++) {
            x.insert(0, k, -1);
        }
        x.insert(0, 1, 2);
        due.is("before the one behind it", childrenOf(x, 0), "1 2 3");
        x.insert(0, 1, 3);
        due.is("before the last one", childrenOf(x, 0), "2 1 3");
        x.insert(0, 3, 2);
        due.is("the last one to the front", childrenOf(x, 0), "3 2 1");
        x.insert(0, 3, -1);
        due.is("the first one to the end", childrenOf(x, 0), "2 1 3");
        x.insert(0, 3, -1);
        due.is("the last one to the end", childrenOf(x, 0), "2 1 3");
    }

    private static void insertIntoEveryKind() {
        NodeStage x = stageOf(0, 4, 1, 2, 0);
        for (int parent = 0; parent <= 4; parent++) {
            x.insert(parent, 5, -1);
            due.is("parent after insert(" + parent + ", 5, -1)", x.node(5, 1), parent);
            due.is("children of " + parent, childrenOf(x, parent), "5");
        }
    }

    private static void remove() {
        NodeStage x = stageOf(0, 4, 0, 0, 0);
        x.insert(0, 1, -1);
        for (int k = 3; k <= 5; k++) {
            x.insert(1, k, -1);
        }
        due.is("remove(4), the middle one", x.remove(4), true);
        due.is("children then", childrenOf(x, 1), "3 5");
        due.is("remove(3), the first one", x.remove(3), true);
        due.is("children then", childrenOf(x, 1), "5");
        due.is("remove(5), the last one", x.remove(5), true);
        due.is("children then", childrenOf(x, 1), "");
        due.is("parent of what is out", x.node(5, 1), -1);
        x.insert(1, 4, -1);
        x.insert(1, 3, 4);
        due.is("children of the refilled one", childrenOf(x, 1), "3 4");
        due.is("remove(1) with what is below", x.remove(1), true);
        due.is("root of what is below", x.node(3, 7), 1);
    }

    private static void removedForGood() {
        // What was taken out and is put elsewhere later leaves its old neighbours as they are then.
        NodeStage x = stageOf(0, 0, 0, 0, 0, 0);
        for (int k = 3; k <= 5; k++) {
            x.insert(1, k, -1);
        }
        x.remove(4);
        x.insert(2, 4, -1);
        due.is("its neighbours", childrenOf(x, 1), "3 5");
        x.insert(1, 6, 5);
        due.is("another one between them", childrenOf(x, 1), "3 6 5");
        x.remove(6);
        x.remove(5);
        x.insert(2, 6, 4);
        due.is("one of them, the other one is out, too", childrenOf(x, 1), "3");
        due.is("children elsewhere", childrenOf(x, 2), "6 4");
    }

    private static void assignedSlots() {
        NodeStage x = new NodeStage();
        x.make(0, 0);
        x.attach(1);
        x.make(0, 1);
        x.make(1, 1);
        x.make(1, 1);
        x.make(0, 1);
        x.make(1, 0);
        x.insert(1, 3, -1);
        due.is("without a slot", x.node(3, 2), -1);
        x.insert(2, 4, -1);
        due.is("the one slot", x.node(3, 2), 4);
        x.insert(2, 6, 4);
        x.insert(6, 5, -1);
        due.is("the first in tree order is deeper", x.node(3, 2), 5);
        x.insert(2, 6, -1);
        due.is("the first in tree order is higher", x.node(3, 2), 4);
        x.remove(4);
        due.is("the next one in its place", x.node(3, 2), 5);
        x.insert(5, 4, -1);
        due.is("a slot in a slot is behind it", x.node(3, 2), 5);
        x.remove(6);
        due.is("no slot any more", x.node(3, 2), -1);
        x.insert(2, 7, -1);
        due.is("a slot of another name", x.node(3, 2), -1);
        x.insert(1, 4, -1);
        due.is("a slot among the children is none below the shadow", x.node(3, 2), -1);
        x.insert(2, 6, -1);
        due.is("a slot may be assigned itself", x.node(4, 2), 5);
        due.is("what has no parent with a shadow", x.node(5, 2), -1);
        x.insert(6, 3, -1);
        due.is("a grandchild of the shadow", x.node(3, 2), -1);
        nestedShadowHoldsNoSlot();
    }

    private static void nestedShadowHoldsNoSlot() {
        // The slot 5 is in the shadow 4 of 3, which is below the shadow 2, but not in its tree.
        NodeStage x = stageOf(0, 4, 0, 4, 1, 0);
        x.insert(2, 3, -1);
        x.insert(4, 5, -1);
        x.insert(1, 6, -1);
        due.is("a slot in a shadow below the shadow", x.node(6, 2), -1);
    }

    private static void children() {
        NodeStage x = stageOf(0, 4, 0, 0, 0);
        x.insert(0, 1, -1);
        x.insert(1, 3, -1);
        x.insert(1, 4, -1);
        x.insert(2, 5, -1);
        due.is("children of the host", childrenOf(x, 1), "3 4");
        due.is("children of its shadow", childrenOf(x, 2), "5");
        due.is("children of the document", childrenOf(x, 0), "1");
    }
}
