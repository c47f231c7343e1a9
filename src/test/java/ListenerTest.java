/** Promises 6 to 9: what scripts and listeners do; their edges are in ListenerEdgesTest. */
public final class ListenerTest {
    private static final Due due = new Due();

    public static void main(String[] args) {
        commandByCommand();
        scriptsAreShared();
        commandsMayChange();
        impossibleNumbers();
        listenInOrder();
        unlisten();
        due.end();
    }

    private static void commandByCommand() {
        // Listener 0 sends types 3, 2, 3 and 4, in this order.
        NodeStage x = new NodeStage();
        int[] sent = {3, 2, 3, 4};
        for (int type : sent) {
            due.is("command(0, 5, " + type + ")", x.command(0, 5, type), true);
        }
        x.listen(0, 1, 0, 0);
        for (int type = 2; type <= 4; type++) {
            x.listen(0, type, 0, 7);
        }
        x.dispatch(0, 1, 0);
        due.is("calls", x.look(2), 5);
        for (int k = 0; k < sent.length; k++) {
            due.is("type " + k, x.call(sent.length - 1 - k, 4), sent[k]);
        }
    }

    private static void scriptsAreShared() {
        NodeStage x = new NodeStage();
        x.command(2, 6, 0);
        x.listen(0, 1, 0, 2);
        x.listen(0, 1, 1, 2);
        x.listen(0, 1, 0, 3);
        x.dispatch(0, 1, 0);
        due.is("errors of both that have it", x.look(3), 2);
        due.is("calls of all", x.look(2), 3);
    }

    private static void commandsMayChange() {
        NodeStage x = new NodeStage();
        x.listen(0, 1, 0, 4);
        x.dispatch(0, 1, 0);
        due.is("errors of the empty script", x.look(3), 0);
        due.is("command(4, 6, 0)", x.command(4, 6, 0), true);
        x.dispatch(0, 1, 0);
        due.is("errors with a THROW", x.look(3), 1);
        due.is("clear(4)", x.clear(4), true);
        x.dispatch(0, 1, 0);
        due.is("errors of the cleared script", x.look(3), 1);
        due.is("calls", x.look(2), 3);
    }

    private static void impossibleNumbers() {
        NodeStage x = new NodeStage();
        for (int n : new int[] {-1, Integer.MIN_VALUE, Integer.MAX_VALUE}) {
            for (int command = 0; command <= 8; command++) {
                x.clear(0);
                due.is("command(0, " + command + ", " + n + ")", x.command(0, command, n), true);
                x.listen(0, 1, 2, 0);
                due.is("it does what is possible", x.dispatch(0, 1, 3), command != 2);
            }
        }
        due.is("errors", x.look(3), 3);
        due.is("nodes", x.look(0), 1);
        due.is("calls", x.look(2), 27);
    }

    private static void listenInOrder() {
        NodeStage x = new NodeStage();
        x.make(0, 0);
        x.attach(1);
        int number = 0;
        for (int node = 0; node <= 2; node++) {
            for (int type = 0; type < 8; type++) {
                due.is("listen(" + node + ", " + type + ", 0, 0)", x.listen(node, type, 0, 0), number);
                number++;
            }
        }
        due.is("listeners", x.look(1), 24);
        x.dispatch(1, 5, 0);
        due.is("the listener called", x.call(0, 0), 13);
    }

    private static void unlisten() {
        NodeStage x = new NodeStage();
        x.listen(0, 1, 0, 0);
        x.listen(0, 1, 0, 1);
        x.listen(0, 1, 2, 2);
        due.is("unlisten(0)", x.unlisten(0), true);
        x.dispatch(0, 1, 0);
        due.is("calls without the removed one", x.look(2), 2);
        due.is("the first of them", x.call(1, 0), 1);
        due.is("unlisten(1)", x.unlisten(1), true);
        x.dispatch(0, 1, 0);
        due.is("calls with none left", x.look(2), 2);
        due.is("listeners, the removed ones too", x.look(1), 3);
    }
}
