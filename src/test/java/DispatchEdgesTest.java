import java.util.NoSuchElementException;
import java.util.StringJoiner;

/** Promise 10 at its edges, and the sentences of the terms on dispatching and on commands that it rests on. */
public final class DispatchEdgesTest {
    private static final Due due = new Due();
    private static final int BUBBLES = 1;
    private static final int PREVENTABLE = 2;
    private static final int COMPOSED = 4;
    private static final int CAPTURE = 1;
    private static final int ONCE = 2;
    private static final int PASSIVE = 4;

    public static void main(String[] args) {
        dispatchAtNodesThatAreThere();
        dispatchTypes();
        dispatchFlags();
        dispatchThrowsNoNodeFirst();
        pathEndsAtTheDocument();
        pathEndsWithoutParent();
        pathEndsAtTheRootsShadow();
        pathLeavesShadowsOfSlots();
        pathThroughAllNodes();
        marksOfTypeZero();
        marksOfChecks();
        marksWithBubblesOnly();
        emptyScriptsAreCalled();
        stopAtTheEnds();
        preventWhatCanBe();
        removeWhatIsThere();
        againLikeWhatIsThere();
        againUpToForty();
        sendTypes();
        takeOutWhatHasAParent();
        moveWhatIsAllowed();
        throwAtTheEnds();
        fourAtATime();
        aFifthGivesNoEvent();
        fourAtATimeEachTime();
        mostCalled();
        passedOverIsNotRemoved();
        passedOverInSentEvents();
        mostCalledInEachCall();
        due.end();
    }

    private static void dispatchAtNodesThatAreThere() {
        due.about("Promise 10: NoSuchElementException: there is no such node");
        for (int node : new int[] {0, 2, Scene.LAST_NODE}) {
            due.taken(Scene::busy, true, "dispatch", node, 1, 3);
        }
        for (int node : Due.outside(0, Scene.LAST_NODE)) {
            due.thrown(Scene::busy, NoSuchElementException.class, "dispatch", node, 0, 3);
        }
        due.taken(Scene::fullOfNodes, true, "dispatch", 23, 1, 3);
        due.thrown(Scene::fullOfNodes, NoSuchElementException.class, "dispatch", 24, 1, 3);
        due.thrown(NodeStage::new, NoSuchElementException.class, "dispatch", 1, 1, 3);
    }

    private static void dispatchTypes() {
        due.about("Promise 10: else IllegalArgumentException: type is not 0 .. 7");
        for (int type = 0; type <= 7; type++) {
            NodeStage x = Scene.busy();
            x.listen(7, type, 0, 6);
            due.is("dispatch(7, " + type + ", 0)", x.dispatch(7, type, 0), true);
            due.is("its type", x.call(0, 0) * 10 + x.call(0, 4), 70 + type);
        }
        for (int type : Due.outside(0, 7)) {
            due.thrown(Scene::busy, IllegalArgumentException.class, "dispatch", 5, type, 0);
        }
    }

    private static void dispatchFlags() {
        due.about("Promise 10: else IllegalArgumentException: flags not 0 .. 7");
        for (int flags = 0; flags <= 7; flags++) {
            // The element 3 is in the shadow 2 of 1; all hear, and 3 prevents.
            NodeStage x = Scene.chain(1);
            x.attach(1);
            x.make(0, 0);
            x.insert(2, 3, -1);
            Heard.everywhere(x, 1, 0);
            x.command(0, 2, 0);
            due.is("dispatch(3, 1, " + flags + ")", x.dispatch(3, 1, flags), (flags & PREVENTABLE) == 0);
            boolean bubbles = (flags & BUBBLES) != 0;
            boolean isComposed = (flags & COMPOSED) != 0;
            due.is("calls with " + flags, x.look(2), (bubbles ? 2 : 1) * (isComposed ? 2 : 1));
        }
        for (int flags : Due.outside(0, 7)) {
            due.thrown(Scene::busy, IllegalArgumentException.class, "dispatch", 5, 0, flags);
        }
    }

    private static void dispatchThrowsNoNodeFirst() {
        due.about("Promise 10: NoSuchElementException ..; else IllegalArgumentException");
        for (int node : Due.outside(0, Scene.LAST_NODE)) {
            due.thrown(Scene::busy, NoSuchElementException.class, "dispatch", node, 8, 0);
            due.thrown(Scene::busy, NoSuchElementException.class, "dispatch", node, 0, -1);
            due.thrown(Scene::busy, NoSuchElementException.class, "dispatch", node, -1, 8);
        }
    }

    private static void pathEndsAtTheDocument() {
        due.about("Terms, PATH: of the document none");
        NodeStage x = Scene.chain(1);
        Heard.everywhere(x, 1, 0);
        due.is("at the document", Heard.of(x, 0, 1, BUBBLES | COMPOSED), "0@0>0/2");
        due.is("below it", Heard.of(x, 1, 1, BUBBLES | COMPOSED), "1@1>1/2 0@0>1/3");
    }

    private static void pathEndsWithoutParent() {
        due.about("Terms, PATH: as long as there is a next node");
        NodeStage x = Scene.chain(3);
        x.remove(2);
        Heard.everywhere(x, 1, 0);
        due.is("at what has no parent", Heard.of(x, 2, 1, BUBBLES | COMPOSED), "2@2>2/2");
        due.is("below it", Heard.of(x, 3, 1, BUBBLES | COMPOSED), "3@3>3/2 2@2>3/3");
    }

    private static void pathEndsAtTheRootsShadow() {
        due.about("Terms, PATH: of a shadow: none, if the event is not composed and the shadow is T's root");
        NodeStage x = Scene.nestedHosts();
        Heard.everywhere(x, 1, 0);
        due.is("in the innermost shadow", Heard.of(x, 23, 1, BUBBLES), "23@23>23/2 22@22>23/3");
        due.is("at it", Heard.of(x, 22, 1, BUBBLES), "22@22>22/2");
        due.is("at a host in a shadow", Heard.of(x, 21, 1, BUBBLES), "21@21>21/2 20@20>21/3");
        due.is("at the outermost shadow", Heard.of(x, 2, 1, BUBBLES), "2@2>2/2");
        due.is("at it, composed", Heard.of(x, 2, 1, BUBBLES | COMPOSED), "2@2>2/2 1@1>1/2 0@0>1/3");
        due.is("at the outermost host", Heard.of(x, 1, 1, BUBBLES), "1@1>1/2 0@0>1/3");
    }

    private static void pathLeavesShadowsOfSlots() {
        due.about("Terms, PATH: of a shadow: .. else its host");
        // 4 is assigned to the slot 3 in the shadow 2, which is not 4's root.
        NodeStage x = Scene.busy();
        Heard.everywhere(x, 1, 0);
        due.is("through the slot", Heard.of(x, 4, 1, BUBBLES), "11@4>4/2 10@3>4/3 9@2>4/3 8@1>4/3 7@0>4/3");
        due.is("at the slot", Heard.of(x, 3, 1, BUBBLES), "10@3>3/2 9@2>3/3");
        due.is("past the slot", Heard.of(x, 5, 1, BUBBLES), "12@5>5/2 8@1>5/3 7@0>5/3");
    }

    private static void pathThroughAllNodes() {
        due.about("Terms: NODES, at most 24: all may be entries of a path");
        NodeStage x = Scene.chain(23);
        Heard.everywhere(x, 1, 0);
        Heard.everywhere(x, 2, CAPTURE);
        StringJoiner up = new StringJoiner(" ");
        for (int node = 23; node >= 0; node--) {
            up.add(node + "@" + node + ">23/" + (node == 23 ? 2 : 3));
        }
        due.is("a chain, upwards", Heard.of(x, 23, 1, BUBBLES), up.toString());
        NodeStage y = Scene.nestedHosts();
        Heard.everywhere(y, 1, 0);
        StringJoiner out = new StringJoiner(" ");
        for (int node = 23; node >= 0; node--) {
            boolean isTarget = node % 2 == 1;
            out.add(node + "@" + node + ">" + (isTarget ? node : node + 1) + "/" + (isTarget ? 2 : 3));
        }
        due.is("nested hosts, outwards", Heard.of(y, 23, 1, BUBBLES | COMPOSED), out.toString());
        NodeStage z = Scene.chain(23);
        Heard.everywhere(z, 1, CAPTURE);
        StringJoiner down = new StringJoiner(" ");
        for (int node = 0; node <= 23; node++) {
            down.add(node + "@" + node + ">23/" + (node == 23 ? 2 : 1));
        }
        due.is("a chain, downwards", Heard.of(z, 23, 1, 0), down.toString());
    }

    private static void marksOfTypeZero() {
        due.about("Terms, DISPATCHING: if the type is 0, the mark is turned over");
        for (int type = 0; type <= 7; type++) {
            for (int flags = 0; flags <= 7; flags++) {
                NodeStage x = new NodeStage();
                x.make(2, 0);
                x.dispatch(1, type, flags);
                due.is("mark after type " + type + ", flags " + flags, x.node(1, 6), type == 0 ? 1 : 0);
                x.dispatch(1, type, flags);
                due.is("mark after two of type " + type, x.node(1, 6), 0);
            }
        }
    }

    private static void marksOfChecks() {
        due.about("Terms, DISPATCHING: .. and T is a CHECK, or (with bubbles) the first CHECK of the path");
        // The check 1 holds the check 2, that holds the plain 3 and the slot 4.
        for (int target = 0; target <= 4; target++) {
            NodeStage x = new NodeStage();
            for (int kind : new int[] {2, 2, 0, 1}) {
                x.make(kind, 0);
            }
            int[] parents = {0, 0, 1, 2, 2};
            for (int k = 1; k <= 4; k++) {
                x.insert(parents[k], k, -1);
            }
            x.dispatch(target, 0, BUBBLES);
            for (int node = 0; node <= 4; node++) {
                boolean isFirst = node == (target >= 2 ? 2 : target) && node != 0;
                due.is("mark of " + node + " after 0 at " + target, x.node(node, 6), isFirst ? 1 : 0);
            }
        }
    }

    private static void marksWithBubblesOnly() {
        due.about("Terms, DISPATCHING: (with bubbles) the first CHECK of the path");
        for (int flags = 0; flags <= 7; flags++) {
            NodeStage x = new NodeStage();
            x.make(2, 0);
            x.make(0, 0);
            x.insert(1, 2, -1);
            x.dispatch(2, 0, flags);
            due.is("mark above with flags " + flags, x.node(1, 6), flags & BUBBLES);
        }
        // A check outside of the shadow 3 is on the path of composed events only.
        for (int flags = 0; flags <= 7; flags++) {
            NodeStage x = new NodeStage();
            x.make(2, 0);
            x.make(0, 0);
            x.attach(2);
            x.insert(1, 2, -1);
            x.dispatch(3, 0, flags);
            boolean isReached = (flags & BUBBLES) != 0 && (flags & COMPOSED) != 0;
            due.is("mark outside with flags " + flags, x.node(1, 6), isReached ? 1 : 0);
        }
    }

    private static void emptyScriptsAreCalled() {
        due.about("Terms, CALLED: the call is written down, also with a script without commands");
        NodeStage x = Scene.chain(1);
        x.listen(1, 1, ONCE, 0);
        due.is("the call", Heard.of(x, 1, 1, 0), "0@1>1/2");
        due.is("removed, because once", x.unlisten(0), false);
        due.is("no errors", x.look(3), 0);
    }

    private static void stopAtTheEnds() {
        due.about("Terms, DISPATCHING: a stop ends the courses behind the present node");
        // The first and the last node of each course stop: all listeners there are called, none behind.
        int[][] stops = {{0, CAPTURE, 2}, {2, 0, 5}, {0, 0, 7}};
        for (int[] s : stops) {
            NodeStage x = Scene.chain(2);
            x.command(1, 0, 0);
            x.listen(s[0], 1, s[1], 1);
            Heard.everywhere(x, 1, CAPTURE);
            Heard.everywhere(x, 1, 0);
            x.dispatch(2, 1, BUBBLES);
            due.is("calls up to the stop at " + s[0], x.look(2), s[2]);
            due.is("the last of them", x.call(0, 1), s[0]);
        }
    }

    private static void preventWhatCanBe() {
        due.about("Terms, PREVENT: if the event can be and the listener is not passive");
        for (int flags = 0; flags <= 7; flags++) {
            for (int options = 0; options <= 7; options++) {
                NodeStage x = Scene.chain(1);
                x.command(0, 2, 0);
                x.listen(1, 1, options, 0);
                boolean isPrevented = (flags & PREVENTABLE) != 0 && (options & PASSIVE) == 0;
                due.is("dispatch with " + flags + ", options " + options, x.dispatch(1, 1, flags), !isPrevented);
            }
        }
    }

    /** The busy scene after listener 7 at a node did a command; the script is empty again. */
    private static NodeStage acted(int current, int command, int n) {
        NodeStage x = Scene.busy();
        x.command(6, command, n);
        x.listen(current, 1, PASSIVE, 6);
        x.dispatch(current, 1, 0);
        x.clear(6);
        return x;
    }

    private static void notDone(int current, int command, int n) {
        // PREVENT by a passive listener is the command that surely does nothing.
        due.alike("command " + command + " with " + n + " at " + current, () -> acted(current, command, n),
                () -> acted(current, 2, 0));
    }

    private static void removeWhatIsThere() {
        due.about("Terms, REMOVE listener n; what is not possible is not done");
        for (int n : Due.outside(0, 7)) {
            notDone(6, 3, n);
        }
        notDone(6, 3, Scene.REMOVED_LISTENER);
        for (int n : new int[] {0, Scene.LAST_LISTENER, 7}) {
            NodeStage x = acted(6, 3, n);
            due.is("removed " + n, x.unlisten(n), false);
            due.is("not another one", x.unlisten(n == 0 ? 1 : n - 1), true);
        }
    }

    private static void againLikeWhatIsThere() {
        due.about("Terms, AGAIN: a listener like listener n is added; what is not possible is not done");
        for (int n : Due.outside(0, 7)) {
            notDone(6, 4, n);
        }
        for (int n : new int[] {0, 1, 3, Scene.LAST_LISTENER, 7}) {
            notDone(6, 4, n);
        }
        NodeStage x = acted(6, 4, Scene.REMOVED_LISTENER);
        due.is("one more", x.look(1), 9);
        due.is("its node, type and script", x.listen(4, 5, 0, 2), -1);
        due.is("called", Heard.of(x, 4, 5, 0), "8@4>4/2");
        due.is("its options", x.unlisten(8), false);
        // The first and the last listener, both removed; the last one removes them itself.
        NodeStage y = new NodeStage();
        y.command(1, 3, 0);
        y.command(1, 3, 1);
        y.command(1, 4, 0);
        y.command(1, 4, 1);
        y.listen(0, 2, 0, 0);
        y.listen(0, 1, 0, 1);
        y.dispatch(0, 1, 0);
        due.is("listeners", y.look(1), 4);
        due.is("like the first", Heard.of(y, 0, 2, 0), "2@0>0/2");
        due.is("like the last", Heard.of(y, 0, 1, 0), "3@0>0/2");
    }

    private static void againUpToForty() {
        due.about("Terms: LISTENERS, at most 40, those that AGAIN adds among them");
        for (int there = 38; there <= 40; there++) {
            NodeStage x = Scene.withListeners(there - 1);
            x.command(6, 4, Scene.REMOVED_LISTENER);
            due.is("listener " + (there - 1), x.listen(6, 1, 0, 6), there - 1);
            x.dispatch(6, 1, 0);
            due.is("listeners, of " + there, x.look(1), there == 40 ? 40 : there + 1);
            due.is("like it", x.unlisten(there), there != 40);
        }
    }

    private static void sendTypes() {
        due.about("Terms: with SEND, if n is not 0 .. 7, too");
        for (int n : Due.outside(0, 7)) {
            notDone(4, 5, n);
            notDone(5, 5, n);
        }
        for (int n : new int[] {0, 2, 3, 4, 5, 6, 7}) {
            NodeStage x = Scene.chain(1);
            x.command(1, 5, n);
            x.listen(1, 1, 0, 1);
            x.listen(1, n, 0, 0);
            due.is("SEND " + n, Heard.of(x, 1, 1, 0), "0@1>1/2 1@1>1/2");
            due.is("its type", x.call(0, 4), n);
        }
    }

    private static void takeOutWhatHasAParent() {
        due.about("Terms, TAKE OUT node n from its parent; what is not possible is not done");
        for (int n : Due.outside(0, Scene.LAST_NODE)) {
            notDone(6, 7, n);
        }
        for (int documentShadowOrLoose : new int[] {0, 2, 7}) {
            notDone(6, 7, documentShadowOrLoose);
        }
        for (int n : new int[] {1, 3, 6, Scene.LAST_NODE}) {
            due.is("parent of " + n, acted(6, 7, n).node(n, 1), -1);
        }
    }

    private static void moveWhatIsAllowed() {
        due.about("Terms, MOVE: element n is inserted into the current node; what is not possible is not done");
        for (int n : Due.outside(0, Scene.LAST_NODE)) {
            notDone(6, 8, n);
        }
        int[][] itselfAboveHostingOrNoElement = {{6, 6}, {1, 1}, {4, 1}, {8, 7}, {2, 1}, {3, 1}, {6, 0}, {6, 2}, {0, 0}, {2, 2}};
        for (int[] i : itselfAboveHostingOrNoElement) {
            notDone(i[0], 8, i[1]);
        }
        int[][] allowed = {{6, 1}, {6, Scene.LAST_NODE}, {0, 7}, {2, 6}, {3, 6}, {6, 3}, {6, 5}, {Scene.LAST_NODE, 6}};
        for (int[] a : allowed) {
            due.is("MOVE " + a[1] + " into " + a[0], acted(a[0], 8, a[1]).node(a[1], 1), a[0]);
        }
        NodeStage x = acted(1, 8, 4);
        due.is("to the end of its own parent", x.child(1, 0) * 10 + x.child(1, 1), 54);
    }

    private static void throwAtTheEnds() {
        due.about("Terms, THROW: the script ends, an ERROR is counted");
        for (int place = 0; place < 5; place++) {
            // Each of the other commands adds one that a listener counts.
            NodeStage x = Scene.chain(1);
            for (int k = 0; k < 5; k++) {
                x.command(1, k == place ? 6 : 5, 2);
            }
            x.listen(1, 1, 0, 1);
            x.listen(1, 2, 0, 0);
            x.dispatch(1, 1, 0);
            due.is("calls, a THROW at " + place, x.look(2), 1 + place);
            due.is("errors", x.look(3), 1);
        }
    }

    /** A check 1 in the document that hears types 1 to 7; each script sends the next type, script 7 nothing. */
    private static NodeStage relay() {
        NodeStage x = new NodeStage();
        x.make(2, 0);
        x.insert(0, 1, -1);
        for (int type = 1; type <= 7; type++) {
            x.listen(1, type, 0, type);
            if (type < 7) {
                x.command(type, 5, type + 1);
            }
        }
        return x;
    }

    private static void fourAtATime() {
        due.about("Terms: dispatching within dispatching: at most 4 at a time");
        NodeStage x = relay();
        int[] calls = {4, 4, 4, 4, 3, 2, 1};
        for (int type = 1; type <= 7; type++) {
            int before = x.look(2);
            x.dispatch(1, type, 0);
            due.is("calls from type " + type, x.look(2) - before, calls[type - 1]);
            due.is("the last type from " + type, x.call(0, 4), Math.min(type + 3, 7));
        }
    }

    private static void aFifthGivesNoEvent() {
        due.about("Terms: a fifth one does not happen and gives no event");
        for (int fourth = 3; fourth <= 5; fourth++) {
            NodeStage x = relay();
            x.clear(fourth);
            x.command(fourth, 5, 0);
            x.command(fourth, 6, 0);
            x.dispatch(1, 1, 0);
            due.is("mark, 0 is sent by type " + fourth, x.node(1, 6), fourth == 3 ? 1 : 0);
            due.is("the script goes on", x.look(3), fourth <= 4 ? 1 : 0);
        }
    }

    private static void fourAtATimeEachTime() {
        due.about("Terms: at most 4 at a time, and again 4 when one is over");
        NodeStage x = relay();
        x.command(1, 5, 2);
        x.command(4, 5, 6);
        for (int k = 1; k <= 3; k++) {
            x.dispatch(1, 1, 0);
            due.is("calls after " + k, x.look(2), 7 * k);
        }
        NodeStage y = relay();
        for (int k = 0; k < 4; k++) {
            y.command(3, 5, 5);
        }
        y.dispatch(1, 1, 0);
        due.is("the fourth one five times", y.look(2), 8);
    }

    /** Dispatching type 1 at the check 1 makes 116 calls and so many more, with once, the last of which throws. */
    private static NodeStage crowd(int behind) {
        NodeStage x = Scene.crowd(2, 1, 2);
        x.command(7, 6, 0);
        for (int k = 1; k <= behind; k++) {
            x.listen(1, 1, ONCE, k == behind ? 7 : k);
        }
        return x;
    }

    private static void mostCalled() {
        due.about("Terms: at most 120 listeners are called in a call of this class's methods");
        for (int behind = 0; behind <= 6; behind++) {
            NodeStage x = crowd(behind);
            due.is("listeners", x.look(1), 24 + behind);
            x.dispatch(1, 1, 0);
            due.is("calls of " + (116 + behind), x.look(2), Math.min(116 + behind, 120));
            due.is("the last one is done", x.look(3), behind >= 1 && behind <= 4 ? 1 : 0);
        }
    }

    private static void passedOverIsNotRemoved() {
        due.about("Terms: further ones are passed over (they are not removed)");
        for (int behind = 3; behind <= 6; behind++) {
            NodeStage x = crowd(behind);
            x.dispatch(1, 1, 0);
            for (int k = 1; k <= behind; k++) {
                due.is("is there still, " + k + " of " + behind, x.unlisten(23 + k), k > 4);
            }
        }
    }

    private static void passedOverInSentEvents() {
        due.about("Terms: further ones are passed over, but events go on");
        // The last one sends an event of type 0, which turns the mark of 1 and which the document prevents.
        for (int behind = 3; behind <= 5; behind++) {
            NodeStage x = crowd(behind);
            x.clear(7);
            x.command(7, 5, 0);
            x.command(7, 6, 0);
            x.command(6, 2, 0);
            x.listen(0, 0, ONCE, 6);
            x.dispatch(1, 1, 0);
            due.is("mark, sent by number " + (116 + behind), x.node(1, 6), behind == 4 ? 1 : 0);
            due.is("the script goes on", x.look(3), behind <= 4 ? 1 : 0);
            due.is("what would prevent it is there still", x.unlisten(24 + behind), behind != 3);
        }
    }

    private static void mostCalledInEachCall() {
        due.about("Terms: at most 120 in a call, and again 120 in the next one");
        NodeStage x = crowd(6);
        x.dispatch(1, 1, 0);
        due.is("calls of the first", x.look(2), 120);
        x.dispatch(1, 1, 0);
        due.is("calls of both", x.look(2), 120 + 118);
        due.is("errors", x.look(3), 1);
        x.dispatch(1, 2, 1);
        due.is("calls of all", x.look(2), 120 + 118 + 23);
    }
}
