/** Stages to try calls on. Each is made anew, because an object is good for 512 calls only. */
final class Scene {
    /** Of the busy scene: its last node, its last listener, and its listener that is removed. */
    static final int LAST_NODE = 8;
    static final int LAST_LISTENER = 6;
    static final int REMOVED_LISTENER = 2;

    private Scene() {
    }

    /**
     * 0 holds 1 and 6. 1 is a host with the shadow 2, which holds the slot 3; it holds 4, which is
     * assigned to 3, and the check 5, its mark on. 7 has no parent and holds 8. 1, 4, 6 and 8 have
     * boxes; the pointer is down on 4. Script 5 has five commands, 6 and 7 have none.
     */
    static NodeStage busy() {
        NodeStage x = new NodeStage();
        x.make(0, 0);
        x.attach(1);
        int[][] made = {{1, 1}, {0, 1}, {2, 0}, {0, 2}, {0, 0}, {0, 3}};
        for (int[] m : made) {
            x.make(m[0], m[1]);
        }
        int[][] inserted = {{0, 1}, {2, 3}, {1, 4}, {1, 5}, {0, 6}, {7, 8}};
        for (int[] i : inserted) {
            x.insert(i[0], i[1], -1);
        }
        x.box(1, 0, 0, 40, 40);
        x.box(4, 5, 5, 10, 10);
        x.box(6, 20, 20, 60, 60);
        x.zoom(6, 0.5, 2);
        x.box(8, 1, 1, 5, 5);
        int[][] commands = {{0, 2, 0}, {1, 6, 0}, {2, 5, 7}, {3, 7, 5}, {4, 3, 0},
            {5, 8, 6}, {5, 4, 2}, {5, 5, 1}, {5, 0, 0}, {5, 1, 0}};
        for (int[] c : commands) {
            x.command(c[0], c[1], c[2]);
        }
        int[][] listeners = {{1, 0, 0, 0}, {0, 4, 1, 1}, {4, 5, 2, 2}, {5, 0, 4, 0}, {6, 3, 0, 3}, {0, 6, 6, 4}, {8, 7, 0, 5}};
        for (int[] l : listeners) {
            x.listen(l[0], l[1], l[2], l[3]);
        }
        x.pointer(7, 7, true);
        x.dispatch(5, 0, 1);
        return x;
    }

    /** The busy scene with elements that have no parent, up to so many nodes. */
    static NodeStage withNodes(int count) {
        NodeStage x = busy();
        for (int k = LAST_NODE + 1; k < count; k++) {
            x.make(0, 0);
        }
        return x;
    }

    static NodeStage fullOfNodes() {
        return withNodes(24);
    }

    /** The busy scene with listeners at 7, up to so many. */
    static NodeStage withListeners(int count) {
        NodeStage x = busy();
        for (int k = LAST_LISTENER + 1; k < count; k++) {
            x.listen(7, k % 8, 0, k / 8);
        }
        return x;
    }

    static NodeStage fullOfListeners() {
        return withListeners(40);
    }

    /** The document with the plain element 1 in it, 2 in 1 and so on. */
    static NodeStage chain(int count) {
        NodeStage x = new NodeStage();
        for (int k = 1; k <= count; k++) {
            x.make(0, 0);
            x.insert(k - 1, k, -1);
        }
        return x;
    }

    /** 1 reaches from 0 to 10, 2 from 20 to 30, both in the document; both hear all types with the empty script 0. */
    static NodeStage twoBoxes() {
        NodeStage x = new NodeStage();
        for (int k = 1; k <= 2; k++) {
            x.make(0, 0);
            x.insert(0, k, -1);
            x.box(k, 20 * k - 20, 0, 10, 10);
        }
        for (int type = 0; type < 8; type++) {
            x.listen(1, type, 0, 0);
            x.listen(2, type, 0, 0);
        }
        return x;
    }

    /**
     * The element 1 of that kind in the document, in which an event of the type heard makes 116 calls:
     * of listener 0 at 1, that sends five events of the other type, each to the listeners 1 to 23. The
     * scripts 1 to 7 are empty.
     */
    static NodeStage crowd(int kind, int heard, int sent) {
        NodeStage x = new NodeStage();
        x.make(kind, 0);
        x.insert(0, 1, -1);
        for (int k = 0; k < 5; k++) {
            x.command(0, 5, sent);
        }
        x.listen(1, heard, 0, 0);
        for (int k = 0; k < 23; k++) {
            x.listen(k < 12 ? 1 : 0, sent, k % 2, 1 + k / 2 % 6);
        }
        return x;
    }

    /** 0 holds the host 1 with the shadow 2, that holds the host 3 with the shadow 4 and so on; 22 holds 23. */
    static NodeStage nestedHosts() {
        NodeStage x = new NodeStage();
        for (int k = 1; k < 23; k += 2) {
            x.make(0, 0);
            x.attach(k);
            x.insert(k - 1, k, -1);
        }
        x.make(0, 0);
        x.insert(22, 23, -1);
        return x;
    }
}
