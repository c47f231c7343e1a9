/** Promise 15: the pointer, and which events its moves make. */
public final class PointerTest {
    private static final Due due = new Due();

    public static void main(String[] args) {
        overAndOut();
        downAndUp();
        upElsewhere();
        downOnNothing();
        upOnNothing();
        orderOfEvents();
        flagsOfEvents();
        foundStaysFound();
        oldOneMayBeGone();
        scriptsEventsDoNotCount();
        mostCalledInAll();
        atNoPoint();
        due.end();
    }

    /** 1 from 0 to 10, 2 from 20 to 30, both in the document; 0, 1 and 2 hear all types. */
    private static NodeStage twoBoxes() {
        NodeStage x = new NodeStage();
        for (int k = 1; k <= 2; k++) {
            x.make(0, 0);
            x.insert(0, k, -1);
            x.box(k, 20 * k - 20, 0, 10, 10);
        }
        for (int type = 0; type < 8; type++) {
            x.listen(1, type, 0, 0);
            x.listen(2, type, 0, 0);
        }
        return x;
    }

    /** The number of events, then each as type@node. */
    private static String eventsOf(NodeStage x, double at, boolean down) {
        int before = x.look(2);
        StringBuilder text = new StringBuilder().append(x.pointer(at, 5, down));
        for (int k = x.look(2) - before - 1; k >= 0; k--) {
            text.append(' ').append(x.call(k, 4)).append('@').append(x.call(k, 1));
        }
        return text.toString();
    }

    private static void overAndOut() {
        NodeStage x = twoBoxes();
        due.is("over nothing", eventsOf(x, 15, false), "0");
        due.is("to 1", eventsOf(x, 5, false), "2 3@1 4@1");
        due.is("over", x.look(4), 1);
        due.is("within 1", eventsOf(x, 6, false), "1 4@1");
        due.is("not moved at all", eventsOf(x, 6, false), "1 4@1");
        due.is("from 1 to 2", eventsOf(x, 25, false), "3 2@1 3@2 4@2");
        due.is("over", x.look(4), 2);
        due.is("to nothing", eventsOf(x, 15, false), "1 2@2");
        due.is("over", x.look(4), -1);
        due.is("nothing to nothing", eventsOf(x, 16, false), "0");
        due.is("pressed", x.look(5), -1);
    }

    private static void downAndUp() {
        NodeStage x = twoBoxes();
        due.is("down at once", eventsOf(x, 5, true), "3 3@1 4@1 5@1");
        due.is("pressed", x.look(5), 1);
        due.is("still down", eventsOf(x, 6, true), "1 4@1");
        due.is("still pressed", x.look(5), 1);
        due.is("up", eventsOf(x, 7, false), "3 4@1 6@1 0@1");
        due.is("pressed nothing", x.look(5), -1);
        due.is("still up", eventsOf(x, 7, false), "1 4@1");
        due.is("down again", eventsOf(x, 7, true), "2 4@1 5@1");
    }

    private static void upElsewhere() {
        NodeStage x = twoBoxes();
        x.pointer(5, 5, true);
        due.is("moved to another one", eventsOf(x, 25, true), "3 2@1 3@2 4@2");
        due.is("pressed is the first", x.look(5), 1);
        due.is("up there", eventsOf(x, 25, false), "2 4@2 6@2");
        due.is("pressed nothing", x.look(5), -1);
        x.pointer(5, 5, true);
        x.pointer(25, 5, true);
        due.is("back and up", eventsOf(x, 5, false), "5 2@2 3@1 4@1 6@1 0@1");
    }

    private static void downOnNothing() {
        NodeStage x = twoBoxes();
        x.pointer(5, 5, true);
        x.pointer(5, 5, false);
        due.is("down on nothing", eventsOf(x, 15, true), "1 2@1");
        due.is("pressed nothing", x.look(5), -1);
        due.is("onto 1, down already", eventsOf(x, 5, true), "2 3@1 4@1");
        due.is("pressed nothing", x.look(5), -1);
        due.is("up on 1", eventsOf(x, 5, false), "2 4@1 6@1");
    }

    private static void upOnNothing() {
        NodeStage x = twoBoxes();
        x.pointer(5, 5, true);
        due.is("away, still down", eventsOf(x, 15, true), "1 2@1");
        due.is("pressed", x.look(5), 1);
        due.is("up on nothing", eventsOf(x, 15, false), "0");
        due.is("pressed nothing", x.look(5), -1);
        due.is("over 1, up", eventsOf(x, 5, false), "2 3@1 4@1");
    }

    private static void orderOfEvents() {
        NodeStage x = twoBoxes();
        x.pointer(5, 5, false);
        due.is("all on the way down", eventsOf(x, 25, true), "4 2@1 3@2 4@2 5@2");
        x.pointer(5, 5, true);
        due.is("all on the way up", eventsOf(x, 25, false), "5 2@1 3@2 4@2 6@2 0@2");
    }

    private static void flagsOfEvents() {
        // A check in a shadow: the event reaches the document, turns the mark, and can be prevented.
        NodeStage x = new NodeStage();
        x.make(0, 0);
        x.attach(1);
        x.make(2, 0);
        x.insert(0, 1, -1);
        x.insert(2, 3, -1);
        x.box(3, 0, 0, 10, 10);
        x.listen(0, 0, 0, 1);
        x.pointer(5, 5, true);
        x.pointer(5, 5, false);
        due.is("composed and with bubbles", x.call(0, 1) * 100 + x.call(0, 2) * 10 + x.call(0, 3), 13);
        due.is("the mark is on", x.node(3, 6), 1);
        x.command(1, 2, 0);
        x.pointer(5, 5, true);
        due.is("a prevented event counts", x.pointer(5, 5, false), 3);
        due.is("the mark is on again", x.node(3, 6), 1);
    }

    private static void foundStaysFound() {
        // The listener at 1 takes it out as soon as the pointer enters.
        NodeStage x = twoBoxes();
        x.command(0, 7, 1);
        due.is("all events are for it", eventsOf(x, 5, true), "3 3@1 4@1 5@1");
        due.is("over", x.look(4), 1);
        due.is("pressed", x.look(5), 1);
        due.is("it is out", x.node(1, 1), -1);
        due.is("then it is not found", eventsOf(x, 5, false), "1 2@1");
        due.is("over nothing", x.look(4), -1);
        due.is("pressed nothing", x.look(5), -1);
    }

    private static void oldOneMayBeGone() {
        NodeStage x = twoBoxes();
        x.pointer(5, 5, false);
        x.remove(1);
        due.is("over stays until it is put", x.look(4), 1);
        due.is("the old one is told", eventsOf(x, 25, false), "3 2@1 3@2 4@2");
    }

    private static void scriptsEventsDoNotCount() {
        NodeStage x = twoBoxes();
        x.command(0, 5, 7);
        due.is("sent ones are called, not counted", eventsOf(x, 5, false), "2 3@1 7@1 7@1 7@1 4@1 7@1 7@1 7@1");
    }

    private static void mostCalledInAll() {
        // Each event alone would call 4 * 4 * 4 * 4 and more.
        NodeStage x = new NodeStage();
        x.make(0, 0);
        x.insert(0, 1, -1);
        x.box(1, 0, 0, 10, 10);
        for (int script = 0; script < 4; script++) {
            for (int k = 0; k < 4; k++) {
                x.command(script, 5, 3);
            }
            x.listen(1, 3, 0, script);
        }
        x.listen(1, 4, 0, 7);
        due.is("the events are counted", x.pointer(5, 5, true), 3);
        due.is("calls in all", x.look(2), 120);
        due.is("the latest type", x.call(0, 4), 3);
        x.pointer(5, 5, true);
        due.is("a new number for a new call", x.look(2), 121);
    }

    private static void atNoPoint() {
        NodeStage x = twoBoxes();
        x.pointer(5, 5, false);
        due.is("at no point nothing is found", x.pointer(Double.NaN, Double.NEGATIVE_INFINITY, true), 1);
        due.is("over nothing", x.look(4), -1);
        due.is("pressed nothing", x.look(5), -1);
    }
}
