/** Promises 6 to 9 at their edges: scripts with their commands, and listeners. */
public final class ListenerEdgesTest {
    private static final Due due = new Due();

    public static void main(String[] args) {
        commandOfScripts();
        commandsThatAre();
        commandTakesAnyNumber();
        mostCommands();
        refusedCommandsTakeNoRoom();
        clearScripts();
        clearGivesRoom();
        clearOfAnEmptyScript();
        listenAtNodesThatAreThere();
        listenToTypes();
        listenWithOptions();
        listenWithScripts();
        mostListeners();
        removedListenersGiveNoRoom();
        listenLikeAnother();
        listenNotQuiteLikeAnother();
        listenLikeARemovedOne();
        unlistenListenersThatAreThere();
        unlistenOnce();
        unlistenRemovedByScripts();
        due.end();
    }

    /** A stage whose script has so many commands: STOPs, then, as the last one, a THROW. */
    private static NodeStage scripted(int script, int commands) {
        NodeStage x = new NodeStage();
        for (int k = 1; k <= commands; k++) {
            x.command(script, k == commands ? 6 : 0, 0);
        }
        return x;
    }

    /** The errors that a script makes. */
    private static int errorsOf(NodeStage x, int script) {
        int before = x.look(3);
        x.listen(0, 7, 2, script);
        x.dispatch(0, 7, 0);
        return x.look(3) - before;
    }

    private static void commandOfScripts() {
        due.about("Promise 6: false (refused) if there is no such script");
        for (int script : new int[] {0, 7}) {
            NodeStage x = new NodeStage();
            due.is("command(" + script + ", 6, 0)", x.command(script, 6, 0), true);
            due.is("errors of it", errorsOf(x, script), 1);
            due.is("errors of another one", errorsOf(x, 3), 0);
        }
        for (int script : Due.outside(0, 7)) {
            due.refused(Scene::busy, "command", script, 6, 0);
            due.refused(NodeStage::new, "command", script, 0, 0);
        }
    }

    private static void commandsThatAre() {
        due.about("Promise 6: false (refused) if there is no such command");
        for (int command = 0; command <= 8; command++) {
            due.taken(Scene::busy, true, "command", 6, command, 0);
        }
        for (int command : Due.outside(0, 8)) {
            due.refused(Scene::busy, "command", 6, command, 0);
            due.refused(Scene::busy, "command", 0, command, 0);
        }
        firstCommandIsDone();
        lastCommandIsDone();
    }

    private static void firstCommandIsDone() {
        NodeStage x = Scene.chain(1);
        x.command(0, 0, 0);
        x.listen(1, 1, 0, 0);
        x.listen(0, 1, 0, 1);
        x.dispatch(1, 1, 1);
        due.is("command 0 stops", x.look(2), 1);
    }

    private static void lastCommandIsDone() {
        NodeStage x = Scene.chain(2);
        x.command(0, 8, 2);
        x.listen(0, 1, 0, 0);
        x.dispatch(0, 1, 0);
        due.is("command 8 moves", x.node(2, 1), 0);
    }

    private static void commandTakesAnyNumber() {
        due.about("Terms: COMMANDS, each with a number n");
        for (int n : new int[] {Integer.MIN_VALUE, -1, 0, 7, 8, 23, 24, 39, 40, Integer.MAX_VALUE}) {
            for (int command = 0; command <= 8; command++) {
                due.taken(Scene::busy, true, "command", 7, command, n);
            }
        }
    }

    private static void mostCommands() {
        due.about("Promise 6: false (refused) if it has five");
        for (int script = 0; script <= 7; script++) {
            int s = script;
            NodeStage x = scripted(s, 5);
            due.is("the fifth of " + s + " is done", errorsOf(x, s), 1);
            due.taken(() -> scripted(s, 4), true, "command", s, 0, 0);
            due.taken(() -> scripted(s, 5), true, "command", (s + 1) % 8, 0, 0);
            due.refused(() -> scripted(s, 5), "command", s, 0, 0);
        }
        NodeStage y = scripted(2, 4);
        y.clear(2);
        for (int k = 0; k < 5; k++) {
            due.is("STOP " + k, y.command(2, 0, 0), true);
        }
        due.is("a sixth, a THROW", y.command(2, 6, 0), false);
        due.is("it is not done", errorsOf(y, 2), 0);
        due.refused(Scene::busy, "command", 5, 6, 0);
    }

    private static void refusedCommandsTakeNoRoom() {
        due.about("What throws or is refused changes nothing: a refused command takes no room");
        NodeStage x = new NodeStage();
        for (int k = 0; k < 5; k++) {
            x.command(1, 9, 0);
            x.command(1, -1, 0);
            due.is("command " + k, x.command(1, 6, 0), true);
        }
        due.is("a sixth", x.command(1, 6, 0), false);
    }

    private static void clearScripts() {
        due.about("Promise 7: false (refused) if there is no such script");
        for (int script : new int[] {0, 7}) {
            NodeStage x = scripted(script, 1);
            due.is("clear(" + script + ")", x.clear(script), true);
            due.is("errors of it", errorsOf(x, script), 0);
        }
        for (int script : Due.outside(0, 7)) {
            due.refused(Scene::busy, "clear", script);
        }
    }

    private static void clearGivesRoom() {
        due.about("Promise 7: takes all commands of a script away");
        NodeStage x = scripted(3, 5);
        x.command(4, 6, 0);
        due.is("clear(3)", x.clear(3), true);
        due.is("errors of the cleared one", errorsOf(x, 3), 0);
        due.is("errors of another one", errorsOf(x, 4), 1);
        for (int k = 1; k <= 5; k++) {
            due.is("command " + k + " then", x.command(3, k == 5 ? 6 : 0, 0), true);
        }
        due.is("a sixth then", x.command(3, 0, 0), false);
        due.is("errors of the new commands", errorsOf(x, 3), 1);
    }

    private static void clearOfAnEmptyScript() {
        due.about("Promise 7: true, also of a script without commands");
        due.taken(NodeStage::new, true, "clear", 0);
        due.taken(NodeStage::new, true, "clear", 7);
        due.alike("an empty script, cleared", () -> {
            NodeStage x = Scene.busy();
            x.clear(6);
            x.clear(6);
            return x;
        }, Scene::busy);
    }

    private static void listenAtNodesThatAreThere() {
        due.about("Promise 8: -1 (refused) if there is no such node");
        for (int node : new int[] {0, 2, Scene.LAST_NODE}) {
            due.taken(Scene::busy, 7, "listen", node, 1, 0, 6);
        }
        for (int node : Due.outside(0, Scene.LAST_NODE)) {
            due.refused(Scene::busy, "listen", node, 1, 0, 6);
        }
        due.taken(Scene::fullOfNodes, 7, "listen", 23, 1, 0, 6);
        due.refused(Scene::fullOfNodes, "listen", 24, 1, 0, 6);
        due.refused(NodeStage::new, "listen", 1, 0, 0, 0);
    }

    private static void listenToTypes() {
        due.about("Promise 8: -1 (refused) if there is no such type");
        for (int type = 0; type <= 7; type++) {
            NodeStage x = Scene.busy();
            due.is("listen(7, " + type + ", 0, 6)", x.listen(7, type, 0, 6), 7);
            x.dispatch(7, type, 0);
            due.is("it hears type " + type, x.call(0, 0) * 10 + x.call(0, 4), 70 + type);
        }
        for (int type : Due.outside(0, 7)) {
            due.refused(Scene::busy, "listen", 7, type, 0, 6);
        }
    }

    private static void listenWithOptions() {
        due.about("Promise 8: -1 (refused) if there are no such options");
        for (int options = 0; options <= 7; options++) {
            NodeStage x = Scene.chain(1);
            x.command(0, 2, 0);
            due.is("listen(0, 1, " + options + ", 0)", x.listen(0, 1, options, 0), 0);
            due.is("passive of " + options, x.dispatch(1, 1, 3), (options & 4) != 0);
            due.is("capture of " + options, x.call(0, 3), (options & 1) != 0 ? 1 : 3);
            due.is("once of " + options, x.unlisten(0), (options & 2) == 0);
        }
        for (int options : Due.outside(0, 7)) {
            due.refused(Scene::busy, "listen", 7, 1, options, 6);
        }
    }

    private static void listenWithScripts() {
        due.about("Promise 8: -1 (refused) if there is no such script");
        for (int script = 0; script <= 7; script++) {
            due.taken(Scene::busy, 7, "listen", 7, 1, 0, script);
            due.is("script " + script + " is done", errorsOf(scripted(script, 1), script), 1);
        }
        for (int script : Due.outside(0, 7)) {
            due.refused(Scene::busy, "listen", 7, 1, 0, script);
        }
    }

    private static void mostListeners() {
        due.about("Promise 8: -1 (refused) if forty are there");
        NodeStage x = new NodeStage();
        for (int k = 0; k < 40; k++) {
            due.is("listener " + k, x.listen(0, k % 8, 0, k / 8), k);
            due.is("listeners", x.look(1), k + 1);
        }
        due.is("one more", x.listen(0, 0, 1, 0), -1);
        x.dispatch(0, 7, 0);
        due.is("the last one is called", x.call(0, 0), 39);
        due.taken(() -> Scene.withListeners(39), 39, "listen", 0, 0, 1, 0);
        due.refused(Scene::fullOfListeners, "listen", 0, 0, 1, 0);
        due.refused(Scene::fullOfListeners, "listen", 8, 7, 7, 7);
    }

    private static void removedListenersGiveNoRoom() {
        due.about("Terms: LISTENERS, at most 40; they are REMOVED or not");
        NodeStage x = Scene.fullOfListeners();
        due.is("unlisten(39)", x.unlisten(39), true);
        due.is("unlisten(0)", x.unlisten(0), true);
        due.is("listen", x.listen(0, 0, 1, 0), -1);
        due.is("listen like a removed one", x.listen(1, 0, 0, 0), -1);
        due.is("listeners", x.look(1), 40);
    }

    private static void listenLikeAnother() {
        due.about("Promise 8: -1 (refused) if it is like another one");
        for (int onceAndPassive : new int[] {0, 2, 4, 6}) {
            due.refused(Scene::busy, "listen", 1, 0, onceAndPassive, 0);
            due.refused(Scene::busy, "listen", 0, 4, onceAndPassive + 1, 1);
            due.refused(Scene::busy, "listen", 5, 0, onceAndPassive, 0);
            due.refused(Scene::busy, "listen", 8, 7, onceAndPassive, 5);
        }
    }

    private static void listenNotQuiteLikeAnother() {
        due.about("Terms, LISTENERS: like another one (node, type, capture, script)");
        int[][] besidesListener0 = {{0, 0, 0, 0}, {2, 0, 0, 0}, {1, 1, 0, 0}, {1, 7, 0, 0}, {1, 0, 1, 0}, {1, 0, 7, 0},
            {1, 0, 0, 1}, {1, 0, 0, 7}};
        for (int[] b : besidesListener0) {
            due.taken(Scene::busy, 7, "listen", b[0], b[1], b[2], b[3]);
        }
        due.taken(Scene::busy, 7, "listen", 0, 4, 0, 1);
        due.taken(Scene::busy, 7, "listen", 0, 4, 6, 1);
    }

    private static void listenLikeARemovedOne() {
        due.about("Terms, LISTENERS: like another one that is not removed");
        due.taken(Scene::busy, 7, "listen", 4, 5, 2, 2);
        NodeStage x = Scene.busy();
        x.unlisten(0);
        due.is("like the one just removed", x.listen(1, 0, 4, 0), 7);
        due.is("like the new one", x.listen(1, 0, 0, 0), -1);
        x.unlisten(7);
        due.is("like two removed ones", x.listen(1, 0, 0, 0), 8);
        due.is("listeners", x.look(1), 9);
    }

    private static void unlistenListenersThatAreThere() {
        due.about("Promise 9: false (refused) if there is none such");
        due.taken(Scene::busy, true, "unlisten", 0);
        due.taken(Scene::busy, true, "unlisten", Scene.LAST_LISTENER);
        for (int listener : Due.outside(0, Scene.LAST_LISTENER)) {
            due.refused(Scene::busy, "unlisten", listener);
        }
        due.taken(Scene::fullOfListeners, true, "unlisten", 39);
        due.refused(Scene::fullOfListeners, "unlisten", 40);
        due.refused(NodeStage::new, "unlisten", 0);
    }

    private static void unlistenOnce() {
        due.about("Promise 9: false (refused) if it is removed");
        due.refused(Scene::busy, "unlisten", Scene.REMOVED_LISTENER);
        due.refused(() -> {
            NodeStage x = Scene.busy();
            x.unlisten(0);
            return x;
        }, "unlisten", 0);
    }

    private static void unlistenRemovedByScripts() {
        due.about("Promise 9: false (refused) if it is removed, by once or by a script");
        // Listener 0 is heard once, listener 1 removes itself and 2.
        NodeStage x = new NodeStage();
        x.command(1, 3, 1);
        x.command(1, 3, 2);
        x.listen(0, 1, 2, 0);
        x.listen(0, 1, 0, 1);
        x.listen(0, 2, 0, 2);
        x.listen(0, 2, 0, 3);
        x.dispatch(0, 1, 0);
        due.is("calls", x.look(2), 2);
        for (int listener = 0; listener < 3; listener++) {
            due.is("unlisten(" + listener + ")", x.unlisten(listener), false);
        }
        due.is("unlisten(3)", x.unlisten(3), true);
        due.is("unlisten(3) again", x.unlisten(3), false);
    }
}
