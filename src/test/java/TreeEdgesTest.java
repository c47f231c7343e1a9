import java.util.NoSuchElementException;

/** Promises 1 to 5 at their edges: a test for each sentence on what is taken and what is not. */
public final class TreeEdgesTest {
    private static final Due due = new Due();

    public static void main(String[] args) {
        newObjectIsTheDocumentAlone();
        kindsOfElements();
        namesOfElements();
        mostNodesMade();
        hostsAreThere();
        hostsArePlain();
        hostsHaveOneShadow();
        mostNodesAttached();
        insertIntoNodesThatAreThere();
        insertElementsThatAreThere();
        insertBeforeNodesThatAreThere();
        insertThrowsOutOfBoundsFirst();
        insertNotIntoItself();
        insertNotBelowItself();
        insertNotBelowWhatItHosts();
        insertElementsOnly();
        insertNotBeforeItself();
        insertThrowsNotAllowedSecond();
        insertBeforeChildrenOnly();
        removeNodesThatAreThere();
        removeFromParentsOnly();
        rootIsTheLastOneAbove();
        assignedOnlyWithSlot();
        due.end();
    }

    private static void newObjectIsTheDocumentAlone() {
        due.about("Promise 1: the document alone");
        int[] looks = {1, 0, 0, 0, -1, -1};
        int[] facts = {3, -1, -1, -1, -1, 0, 0, 0};
        NodeStage x = new NodeStage();
        for (int what = 0; what < looks.length; what++) {
            due.is("look(" + what + ")", x.look(what), looks[what]);
        }
        for (int what = 0; what < facts.length; what++) {
            due.is("node(0, " + what + ")", x.node(0, what), facts[what]);
            due.is("node(1, " + what + ")", x.node(1, what), -1);
        }
        due.is("child(0, 0)", x.child(0, 0), -1);
        due.is("call(0, 0)", x.call(0, 0), -1);
        due.is("hit(0, 0)", x.hit(0, 0), -1);
        due.is("unlisten(0)", x.unlisten(0), false);
        due.is("make(0, 0)", x.make(0, 0), 1);
        due.is("listen(0, 0, 0, 0)", x.listen(0, 0, 0, 0), 0);
        for (int script = 0; script < 8; script++) {
            for (int k = 0; k < 5; k++) {
                due.is("command " + k + " of script " + script, x.command(script, 0, 0), true);
            }
        }
    }

    private static void kindsOfElements() {
        due.about("Promise 2: -1 (refused) if kind is not 0 .. 2");
        for (int kind = 0; kind <= 2; kind++) {
            NodeStage x = Scene.busy();
            due.is("make(" + kind + ", 0)", x.make(kind, 0), 9);
            due.is("its kind", x.node(9, 0), kind);
            due.is("its parent", x.node(9, 1), -1);
        }
        for (int kind : Due.outside(0, 2)) {
            due.refused(Scene::busy, "make", kind, 0);
            due.refused(NodeStage::new, "make", kind, 3);
        }
        due.refused(Scene::busy, "make", 4, 0);
    }

    private static void namesOfElements() {
        due.about("Promise 2: -1 (refused) if name is not 0 .. 3");
        NodeStage x = new NodeStage();
        x.make(0, 0);
        x.attach(1);
        for (int name = 0; name <= 3; name++) {
            due.is("make(1, " + name + ")", x.make(1, name), 3 + name);
            x.insert(2, 3 + name, -1);
        }
        for (int name = 0; name <= 3; name++) {
            due.is("make(0, " + name + ")", x.make(0, name), 7 + name);
            x.insert(1, 7 + name, -1);
            due.is("the slot of name " + name, x.node(7 + name, 2), 3 + name);
        }
        for (int name : Due.outside(0, 3)) {
            for (int kind = 0; kind <= 2; kind++) {
                due.refused(Scene::busy, "make", kind, name);
            }
        }
    }

    private static void mostNodesMade() {
        due.about("Promise 2: -1 (refused) if 24 nodes are there");
        NodeStage x = new NodeStage();
        for (int number = 1; number <= 23; number++) {
            due.is("make(" + number % 3 + ", 0)", x.make(number % 3, 0), number);
            due.is("nodes", x.look(0), number + 1);
        }
        due.taken(() -> Scene.withNodes(23), 23, "make", 2, 3);
        for (int kind = 0; kind <= 2; kind++) {
            due.refused(Scene::fullOfNodes, "make", kind, 0);
        }
        due.taken(Scene::fullOfNodes, 24, "look", 0);
    }

    private static void hostsAreThere() {
        due.about("Promise 3: -1 (refused) if host is no plain element, because there is no such node");
        due.taken(() -> Scene.chain(1), 2, "attach", 1);
        due.taken(Scene::busy, 9, "attach", Scene.LAST_NODE);
        for (int host : Due.outside(0, Scene.LAST_NODE)) {
            due.refused(Scene::busy, "attach", host);
        }
        due.refused(Scene::fullOfNodes, "attach", 24);
        due.refused(NodeStage::new, "attach", 1);
    }

    private static void hostsArePlain() {
        due.about("Promise 3: -1 (refused) if host is no plain element, but of another kind");
        for (int documentShadowSlotOrCheck : new int[] {0, 2, 3, 5}) {
            due.refused(Scene::busy, "attach", documentShadowSlotOrCheck);
        }
        due.refused(NodeStage::new, "attach", 0);
        due.taken(Scene::busy, 9, "attach", 4);
    }

    private static void hostsHaveOneShadow() {
        due.about("Promise 3: -1 (refused) if host has one");
        NodeStage x = Scene.busy();
        due.is("attach(6)", x.attach(6), 9);
        due.is("its shadow", x.node(6, 3), 9);
        due.is("the shadow's host", x.node(9, 4), 6);
        due.is("attach(6) again", x.attach(6), -1);
        due.is("nodes", x.look(0), 10);
        due.is("its shadow still", x.node(6, 3), 9);
        due.refused(Scene::busy, "attach", 1);
    }

    private static void mostNodesAttached() {
        due.about("Promise 3: -1 (refused) if 24 nodes are there");
        NodeStage x = Scene.withNodes(23);
        due.is("attach(22) as the last one", x.attach(22), 23);
        due.is("its host", x.node(23, 4), 22);
        due.is("make behind it", x.make(0, 0), -1);
        due.is("attach(6) behind it", x.attach(6), -1);
        due.is("no shadow there", x.node(6, 3), -1);
        due.refused(Scene::fullOfNodes, "attach", 6);
        due.refused(Scene::fullOfNodes, "attach", 23);
    }

    private static void insertIntoNodesThatAreThere() {
        due.about("Promise 4: IndexOutOfBoundsException: there is no such node as the parent");
        for (int parent : new int[] {0, Scene.LAST_NODE}) {
            NodeStage x = Scene.busy();
            x.insert(parent, 5, -1);
            due.is("parent after insert(" + parent + ", 5, -1)", x.node(5, 1), parent);
        }
        for (int parent : Due.outside(0, Scene.LAST_NODE)) {
            due.thrown(Scene::busy, IndexOutOfBoundsException.class, "insert", parent, 5, -1);
        }
        due.thrown(Scene::fullOfNodes, IndexOutOfBoundsException.class, "insert", 24, 5, -1);
    }

    private static void insertElementsThatAreThere() {
        due.about("Promise 4: IndexOutOfBoundsException: there is no such node as the element");
        for (int element : new int[] {1, Scene.LAST_NODE}) {
            NodeStage x = Scene.busy();
            x.insert(6, element, -1);
            due.is("parent after insert(6, " + element + ", -1)", x.node(element, 1), 6);
        }
        for (int element : Due.outside(0, Scene.LAST_NODE)) {
            due.thrown(Scene::busy, IndexOutOfBoundsException.class, "insert", 0, element, -1);
        }
        due.thrown(NodeStage::new, IndexOutOfBoundsException.class, "insert", 0, 1, -1);
        due.thrown(Scene::fullOfNodes, IndexOutOfBoundsException.class, "insert", 0, 24, -1);
    }

    private static void insertBeforeNodesThatAreThere() {
        due.about("Promise 4: IndexOutOfBoundsException: there is no such node as before (or before is below -1)");
        NodeStage x = Scene.busy();
        x.insert(1, 6, -1);
        due.is("insert(1, 6, -1), at the end", x.child(1, 2), 6);
        x.insert(7, 6, Scene.LAST_NODE);
        due.is("insert(7, 6, 8), before the last node", x.child(7, 0) * 10 + x.child(7, 1), 68);
        x.insert(0, 6, 1);
        due.is("insert(0, 6, 1), before the first node", x.child(0, 0) * 10 + x.child(0, 1), 61);
        for (int before : Due.outside(-1, Scene.LAST_NODE)) {
            due.thrown(Scene::busy, IndexOutOfBoundsException.class, "insert", 0, 6, before);
        }
        due.thrown(Scene::fullOfNodes, IndexOutOfBoundsException.class, "insert", 0, 6, 24);
    }

    private static void insertThrowsOutOfBoundsFirst() {
        due.about("Promise 4: IndexOutOfBoundsException ..; else IllegalArgumentException");
        int[][] wrongTwice = {{9, 0, -1}, {-1, 2, -1}, {9, 6, 6}, {0, 0, 9}, {1, 1, -2}, {4, 1, 9}, {6, 2, -2}, {0, -1, -1},
            {9, 9, 9}, {-1, -1, -1}};
        for (int[] w : wrongTwice) {
            due.thrown(Scene::busy, IndexOutOfBoundsException.class, "insert", w[0], w[1], w[2]);
        }
    }

    private static void insertNotIntoItself() {
        due.about("Terms, INSERT: not allowed if the element is the parent");
        for (int element : new int[] {1, 3, 4, 5, 6, 7, 8}) {
            due.thrown(Scene::busy, IllegalArgumentException.class, "insert", element, element, -1);
        }
        due.thrown(Scene::busy, IllegalArgumentException.class, "insert", 7, 7, 8);
        due.taken(Scene::busy, "nothing", "insert", 7, 6, -1);
    }

    private static void insertNotBelowItself() {
        due.about("Terms, INSERT: not allowed if the element is above the parent");
        due.thrown(Scene::busy, IllegalArgumentException.class, "insert", 8, 7, -1);
        due.thrown(Scene::busy, IllegalArgumentException.class, "insert", 4, 1, -1);
        due.thrown(() -> Scene.chain(23), IllegalArgumentException.class, "insert", 23, 1, -1);
        due.thrown(() -> Scene.chain(23), IllegalArgumentException.class, "insert", 23, 22, -1);
        NodeStage x = Scene.chain(23);
        x.insert(1, 23, 2);
        due.is("the lowest one may go up", x.child(1, 0) * 100 + x.child(1, 1), 2302);
        x.insert(23, 2, -1);
        due.is("and take in what was above it", x.node(22, 7) * 100 + x.node(2, 1), 23);
    }

    private static void insertNotBelowWhatItHosts() {
        due.about("Terms, INSERT: not allowed if the element is hosting the parent, and so on");
        due.thrown(Scene::busy, IllegalArgumentException.class, "insert", 2, 1, -1);
        due.thrown(Scene::busy, IllegalArgumentException.class, "insert", 3, 1, -1);
        due.thrown(Scene::nestedHosts, IllegalArgumentException.class, "insert", 22, 1, -1);
        due.thrown(Scene::nestedHosts, IllegalArgumentException.class, "insert", 23, 1, -1);
        due.thrown(Scene::nestedHosts, IllegalArgumentException.class, "insert", 23, 21, -1);
        due.taken(Scene::nestedHosts, "nothing", "insert", 2, 23, -1);
        due.taken(Scene::busy, "nothing", "insert", 2, 6, 3);
        due.taken(Scene::busy, "nothing", "insert", 6, 1, -1);
    }

    private static void insertElementsOnly() {
        due.about("Terms, INSERT: not allowed if it is no element");
        int[][] documentAndShadow = {{6, 0, -1}, {8, 0, -1}, {7, 0, 8}, {0, 2, -1}, {6, 2, -1}, {8, 2, -1}, {0, 2, 1}};
        for (int[] w : documentAndShadow) {
            due.thrown(Scene::busy, IllegalArgumentException.class, "insert", w[0], w[1], w[2]);
        }
        for (int element : new int[] {3, 4, 5}) {
            due.taken(Scene::busy, "nothing", "insert", 0, element, 6);
        }
    }

    private static void insertNotBeforeItself() {
        due.about("Promise 4: IllegalArgumentException: before is the element");
        int[][] wrong = {{0, 1, 1}, {0, 6, 6}, {1, 4, 4}, {2, 3, 3}, {0, 7, 7}, {0, 8, 8}};
        for (int[] w : wrong) {
            due.thrown(Scene::busy, IllegalArgumentException.class, "insert", w[0], w[1], w[2]);
        }
        NodeStage x = Scene.busy();
        x.insert(0, 1, 6);
        due.is("before the one that it stood before", x.child(0, 0) * 10 + x.child(0, 1), 16);
    }

    private static void insertThrowsNotAllowedSecond() {
        due.about("Promise 4: IllegalArgumentException ..; else NoSuchElementException");
        int[][] wrongTwice = {{4, 1, 8}, {8, 7, 1}, {0, 2, 8}, {1, 0, 8}, {6, 6, 1}, {6, 4, 4}};
        for (int[] w : wrongTwice) {
            due.thrown(Scene::busy, IllegalArgumentException.class, "insert", w[0], w[1], w[2]);
        }
    }

    private static void insertBeforeChildrenOnly() {
        due.about("Promise 4: NoSuchElementException: before is no child of the parent");
        int[][] wrong = {{0, 7, 4}, {0, 6, 8}, {0, 6, 7}, {1, 6, 0}, {1, 7, 1}, {1, 7, 2}, {1, 7, 3}, {1, 7, 6}, {2, 6, 4},
            {8, 6, 7}, {0, 6, 0}};
        for (int[] w : wrong) {
            due.thrown(Scene::busy, NoSuchElementException.class, "insert", w[0], w[1], w[2]);
        }
        due.taken(Scene::busy, "nothing", "insert", 1, 7, 4);
        due.taken(Scene::busy, "nothing", "insert", 2, 7, 3);
    }

    private static void removeNodesThatAreThere() {
        due.about("Promise 5: false (refused) if there is no such node");
        due.taken(Scene::busy, true, "remove", 1);
        due.taken(Scene::busy, true, "remove", Scene.LAST_NODE);
        for (int node : Due.outside(0, Scene.LAST_NODE)) {
            due.refused(Scene::busy, "remove", node);
        }
        due.refused(Scene::fullOfNodes, "remove", 24);
        due.refused(NodeStage::new, "remove", 1);
    }

    private static void removeFromParentsOnly() {
        due.about("Promise 5: false (refused) if it has no parent");
        for (int documentShadowOrLoose : new int[] {0, 2, 7}) {
            due.refused(Scene::busy, "remove", documentShadowOrLoose);
        }
        due.refused(NodeStage::new, "remove", 0);
        NodeStage x = Scene.busy();
        due.is("remove(4)", x.remove(4), true);
        due.is("its parent", x.node(4, 1), -1);
        due.is("remove(4) again", x.remove(4), false);
        due.is("children of 1", x.node(1, 5) * 10 + x.child(1, 0), 15);
        due.is("remove(5), the only one", x.remove(5), true);
        due.is("children of 1, none", x.node(1, 5) * 10 + x.child(1, 0), -1);
    }

    private static void rootIsTheLastOneAbove() {
        due.about("Terms: the ROOT of a node is the last one above it, or itself");
        due.taken(() -> Scene.chain(23), 0, "node", 23, 7);
        due.taken(Scene::nestedHosts, 22, "node", 23, 7);
        int[] roots = {0, 0, 2, 2, 0, 0, 0, 7, 7};
        for (int node = 0; node < roots.length; node++) {
            due.taken(Scene::busy, roots[node], "node", node, 7);
        }
    }

    private static void assignedOnlyWithSlot() {
        due.about("Terms, ASSIGNED: the first SLOT below that shadow with the element's name, if there is one");
        due.taken(Scene::busy, 3, "node", 4, 2);
        int[] otherNameParentWithoutShadowOrNoParent = {5, 6, 8, 7, 3, 1, 2, 0};
        for (int node : otherNameParentWithoutShadowOrNoParent) {
            due.taken(Scene::busy, -1, "node", node, 2);
        }
        NodeStage x = Scene.busy();
        x.remove(3);
        due.is("an empty shadow", x.node(4, 2), -1);
        x.make(0, 1);
        x.insert(2, 9, -1);
        due.is("of that name, but no slot", x.node(4, 2), -1);
        x.insert(9, 3, -1);
        due.is("deeper below the shadow", x.node(4, 2), 3);
        slotAtTheBottom();
    }

    private static void slotAtTheBottom() {
        // 1 holds 2, its shadow is 23; the last slot of twenty of another name below it has 2's name.
        NodeStage x = new NodeStage();
        x.make(0, 0);
        x.make(0, 3);
        for (int k = 3; k <= 22; k++) {
            x.make(1, k == 22 ? 3 : 2);
        }
        x.attach(1);
        x.insert(1, 2, -1);
        for (int k = 3; k <= 22; k++) {
            x.insert(k == 3 ? 23 : k - 1, k, -1);
        }
        due.is("the lowest of all", x.node(2, 2), 22);
        for (int k = 3; k <= 22; k++) {
            x.insert(23, k, -1);
        }
        due.is("the last of all", x.node(2, 2), 22);
    }
}
