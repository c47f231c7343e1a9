/** Promises 6 to 9: scripts with their commands, and listeners. */
public final class ListenerTest {
    private static final Due due = new Due();
    private static final int[] FAR = {-1, Integer.MIN_VALUE, Integer.MAX_VALUE};

    public static void main(String[] args) {
        command();
        commandTakesAnyNumber();
        clear();
        listen();
        listenRefused();
        listenLikeAnother();
        listenWhenFull();
        unlisten();
        due.end();
    }

    /** How many errors a script makes, which has a THROW at its end only if it took it. */
    private static int errorsOf(NodeStage x, int script) {
        int before = x.look(3);
        x.unlisten(x.listen(0, 7, 2, script));
        x.listen(0, 7, 2, script);
        x.dispatch(0, 7, 0);
        return x.look(3) - before;
    }

    private static void command() {
        NodeStage x = new NodeStage();
        for (int script = 0; script < 8; script++) {
            for (int k = 0; k < 4; k++) {
                due.is("command " + k + " of script " + script, x.command(script, 0, 0), true);
            }
            due.is("without a THROW, errors of " + script, errorsOf(x, script), 0);
            due.is("command 4 of script " + script, x.command(script, 6, 0), true);
            due.is("with a THROW, errors of " + script, errorsOf(x, script), 1);
            due.is("command 5 of script " + script, x.command(script, 0, 0), false);
        }
        NodeStage y = new NodeStage();
        for (int command = 0; command <= 8; command++) {
            due.is("command(" + command % 8 + ", " + command + ", 0)", y.command(command % 8, command, 0), true);
        }
        for (int far : new int[] {-1, 8, Integer.MIN_VALUE, Integer.MAX_VALUE}) {
            due.isRefused("command(" + far + ", 0, 0)", y, () -> y.command(far, 0, 0), false);
        }
        for (int far : new int[] {-1, 9, Integer.MIN_VALUE, Integer.MAX_VALUE}) {
            due.isRefused("command(2, " + far + ", 0)", y, () -> y.command(2, far, 0), false);
        }
        for (int k = 0; k < 4; k++) {
            due.is("what was refused took no room", y.command(2, 6, 0), true);
        }
    }

    private static void commandTakesAnyNumber() {
        NodeStage x = new NodeStage();
        for (int n : FAR) {
            for (int command = 0; command <= 8; command++) {
                x.clear(0);
                due.is("command(0, " + command + ", " + n + ")", x.command(0, command, n), true);
                x.listen(0, 1, 2, 0);
                due.is("it does what is possible", x.dispatch(0, 1, 3), command != 2);
            }
        }
        due.is("errors", x.look(3), 3);
        due.is("nodes", x.look(0), 1);
        due.is("calls", x.look(2), 27);
    }

    private static void clear() {
        NodeStage x = new NodeStage();
        x.command(3, 6, 0);
        x.command(4, 6, 0);
        due.is("clear(3)", x.clear(3), true);
        due.is("errors of the cleared script", errorsOf(x, 3), 0);
        due.is("errors of the other script", errorsOf(x, 4), 1);
        due.is("clear(3) again", x.clear(3), true);
        for (int k = 0; k < 5; k++) {
            due.is("command " + k + " after clear", x.command(3, k == 4 ? 6 : 0, 0), true);
        }
        due.is("command 5 after clear", x.command(3, 0, 0), false);
        due.is("errors of the new commands", errorsOf(x, 3), 1);
        for (int script : new int[] {-1, 8, Integer.MIN_VALUE, Integer.MAX_VALUE}) {
            due.isRefused("clear(" + script + ")", x, () -> x.clear(script), false);
        }
        due.is("errors after refused clears", errorsOf(x, 3), 1);
    }

    private static void listen() {
        NodeStage x = new NodeStage();
        x.make(0, 0);
        x.attach(1);
        int number = 0;
        for (int node = 0; node <= 2; node++) {
            for (int type = 0; type < 8; type++) {
                due.is("listen(" + node + ", " + type + ", 0, 0)", x.listen(node, type, 0, 0), number);
                number++;
            }
        }
        for (int options = 0; options < 8; options++) {
            due.is("listen(0, 3, " + options + ", " + options + ")", x.listen(0, 3, options, options),
                    options == 0 ? -1 : 23 + options);
        }
        due.is("listeners", x.look(1), 31);
        x.dispatch(1, 5, 0);
        due.is("the listener called", x.call(0, 0), 13);
    }

    private static void listenRefused() {
        NodeStage x = new NodeStage();
        x.make(0, 0);
        int[][] wrong = {{2, 0, 0, 0}, {24, 0, 0, 0}, {0, 8, 0, 0}, {0, 0, 8, 0}, {0, 0, 0, 8}};
        for (int[] w : wrong) {
            due.isRefused("listen(" + w[0] + ", " + w[1] + ", " + w[2] + ", " + w[3] + ")", x,
                    () -> x.listen(w[0], w[1], w[2], w[3]), -1);
        }
        for (int far : FAR) {
            due.isRefused("listen(" + far + ", 0, 0, 0)", x, () -> x.listen(far, 0, 0, 0), -1);
            due.isRefused("listen(0, " + far + ", 0, 0)", x, () -> x.listen(0, far, 0, 0), -1);
            due.isRefused("listen(0, 0, " + far + ", 0)", x, () -> x.listen(0, 0, far, 0), -1);
            due.isRefused("listen(0, 0, 0, " + far + ")", x, () -> x.listen(0, 0, 0, far), -1);
        }
        due.is("the first one", x.listen(0, 0, 0, 0), 0);
    }

    private static void listenLikeAnother() {
        NodeStage x = new NodeStage();
        x.make(0, 0);
        due.is("listen(1, 2, 0, 3)", x.listen(1, 2, 0, 3), 0);
        for (int options : new int[] {0, 2, 4, 6}) {
            due.isRefused("listen(1, 2, " + options + ", 3)", x, () -> x.listen(1, 2, options, 3), -1);
        }
        due.is("with capture", x.listen(1, 2, 1, 3), 1);
        for (int options : new int[] {1, 3, 5, 7}) {
            due.isRefused("listen(1, 2, " + options + ", 3)", x, () -> x.listen(1, 2, options, 3), -1);
        }
        due.is("another node", x.listen(0, 2, 0, 3), 2);
        due.is("another type", x.listen(1, 3, 0, 3), 3);
        due.is("another script", x.listen(1, 2, 0, 4), 4);
        x.unlisten(0);
        due.is("like a removed one", x.listen(1, 2, 6, 3), 5);
        due.isRefused("like the new one", x, () -> x.listen(1, 2, 0, 3), -1);
    }

    private static void listenWhenFull() {
        NodeStage x = new NodeStage();
        for (int k = 0; k < 40; k++) {
            due.is("listener " + k, x.listen(0, k % 8, 0, k / 8), k);
        }
        due.isRefused("the forty-first", x, () -> x.listen(0, 0, 1, 0), -1);
        due.is("unlisten(39)", x.unlisten(39), true);
        due.is("listeners, the removed one too", x.look(1), 40);
        due.isRefused("a removed one gives no room", x, () -> x.listen(0, 0, 1, 0), -1);
    }

    private static void unlisten() {
        NodeStage x = new NodeStage();
        x.listen(0, 1, 0, 0);
        x.listen(0, 1, 0, 1);
        x.listen(0, 1, 2, 2);
        due.is("unlisten(0)", x.unlisten(0), true);
        x.dispatch(0, 1, 0);
        due.is("calls without the removed one", x.look(2), 2);
        due.is("the first of them", x.call(1, 0), 1);
        for (int listener : new int[] {0, 2, 3, 40, -1, Integer.MIN_VALUE, Integer.MAX_VALUE}) {
            due.isRefused("unlisten(" + listener + ")", x, () -> x.unlisten(listener), false);
        }
        due.is("unlisten(1)", x.unlisten(1), true);
        x.dispatch(0, 1, 0);
        due.is("calls with none left", x.look(2), 2);
        due.is("listeners, the removed ones too", x.look(1), 3);
    }
}
