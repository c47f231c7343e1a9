/** Promise 15 at its edges: a test for each sentence on the pointer. */
public final class PointerEdgesTest {
    private static final Due due = new Due();
    private static final double ON_1 = 5;
    private static final double ON_2 = 25;
    private static final double ON_NOTHING = 15;

    public static void main(String[] args) {
        upAtFirst();
        overNothingAtFirst();
        overTheSame();
        outOfTheOldOne();
        intoTheNewOne();
        putOnNothing();
        goesDown();
        goesDownOnNothing();
        goesUp();
        goesUpOnNothing();
        pressedOnly();
        pressedNothingThen();
        fewestAndMostEvents();
        withoutSentEvents();
        composedWithBubblesAndPreventable();
        foundStaysFound();
        foundAtTheEdges();
        foundAtNoPoint();
        mostCalledInAll();
        due.end();
    }

    /** Two boxes, and the pointer was put to these points: each x, and 1 if it was down. */
    private static NodeStage after(double... putAndDown) {
        NodeStage x = Scene.twoBoxes();
        for (int k = 0; k + 1 < putAndDown.length; k += 2) {
            x.pointer(putAndDown[k], 5, putAndDown[k + 1] == 1);
        }
        return x;
    }

    private static void upAtFirst() {
        due.about("Terms, THE POINTER is up at first");
        due.is("put up", Heard.ofPointer(after(), ON_1, false), "2 3@1 4@1");
        due.is("put down", Heard.ofPointer(after(), ON_1, true), "3 3@1 4@1 5@1");
    }

    private static void overNothingAtFirst() {
        due.about("Terms, THE POINTER is somewhere (0, 0 at first), OVER nothing at first");
        NodeStage x = after();
        due.is("a box at 0, 0", x.hit(0, 0), 1);
        due.is("over nothing", x.look(4), -1);
        due.is("pressed nothing", x.look(5), -1);
        due.is("put to 0, 0", x.pointer(0, 0, false), 2);
        due.is("over 1", x.look(4), 1);
        due.is("put to nothing at first", Heard.ofPointer(after(), ON_NOTHING, false), "0");
    }

    private static void overTheSame() {
        due.about("Terms, THE POINTER: if H is another one than it was OVER");
        due.is("within 1", Heard.ofPointer(after(ON_1, 0), 6, false), "1 4@1");
        due.is("to the same point", Heard.ofPointer(after(ON_1, 0), ON_1, false), "1 4@1");
        due.is("from 1 to 2", Heard.ofPointer(after(ON_1, 0), ON_2, false), "3 2@1 3@2 4@2");
        due.is("from nothing to nothing", Heard.ofPointer(after(ON_NOTHING, 0), 16, false), "0");
        NodeStage x = after(ON_1, 0);
        x.insert(2, 1, -1);
        x.box(1, -20, 0, 10, 10);
        due.is("the same one, now in 2", Heard.ofPointer(x, ON_1, false), "1 4@1 4@2");
    }

    private static void outOfTheOldOne() {
        due.about("Terms, THE POINTER: type 2 at the old one, if there is one");
        NodeStage x = after(ON_1, 0);
        due.is("from 1 to nothing", Heard.ofPointer(x, ON_NOTHING, false), "1 2@1");
        due.is("over nothing", x.look(4), -1);
        due.is("from nothing to 1", Heard.ofPointer(x, ON_1, false), "2 3@1 4@1");
        x.remove(1);
        due.is("over what is out of the tree", x.look(4), 1);
        due.is("from what is out of the tree", Heard.ofPointer(x, ON_1, false), "1 2@1");
    }

    private static void intoTheNewOne() {
        due.about("Terms, THE POINTER: then OVER becomes H, type 3 at H, if there is one");
        NodeStage x = after(ON_NOTHING, 0);
        due.is("from nothing to 2", Heard.ofPointer(x, ON_2, false), "2 3@2 4@2");
        due.is("over 2", x.look(4), 2);
        due.is("from 2 to nothing", Heard.ofPointer(x, ON_NOTHING, false), "1 2@2");
        due.is("over nothing", x.look(4), -1);
    }

    private static void putOnNothing() {
        due.about("Terms, THE POINTER: then at H, if there is one: type 4");
        due.is("on 1", Heard.ofPointer(after(ON_1, 0), ON_1, false), "1 4@1");
        due.is("on nothing, up", Heard.ofPointer(after(ON_NOTHING, 0), ON_NOTHING, false), "0");
        due.is("on nothing, going down", Heard.ofPointer(after(ON_NOTHING, 0), ON_NOTHING, true), "0");
        due.is("on nothing, down", Heard.ofPointer(after(ON_NOTHING, 1), ON_NOTHING, true), "0");
        due.is("on nothing, going up", Heard.ofPointer(after(ON_NOTHING, 1), ON_NOTHING, false), "0");
    }

    private static void goesDown() {
        due.about("Terms, THE POINTER: 5 if it goes down (H is PRESSED then)");
        NodeStage x = after(ON_1, 0);
        due.is("goes down", Heard.ofPointer(x, ON_1, true), "2 4@1 5@1");
        due.is("pressed", x.look(5), 1);
        due.is("is down", Heard.ofPointer(x, ON_1, true), "1 4@1");
        due.is("is down, on 2", Heard.ofPointer(x, ON_2, true), "3 2@1 3@2 4@2");
        due.is("pressed still", x.look(5), 1);
    }

    private static void goesDownOnNothing() {
        due.about("Terms, THE POINTER: PRESSED is nothing without H");
        NodeStage x = after(ON_1, 0);
        due.is("goes down on nothing", Heard.ofPointer(x, ON_NOTHING, true), "1 2@1");
        due.is("pressed nothing", x.look(5), -1);
        due.is("onto 1, down", Heard.ofPointer(x, ON_1, true), "2 3@1 4@1");
        due.is("pressed nothing still", x.look(5), -1);
        due.is("goes up on 1", Heard.ofPointer(x, ON_1, false), "2 4@1 6@1");
    }

    private static void goesUp() {
        due.about("Terms, THE POINTER: 6 if it goes up, and then, if H is PRESSED, 0");
        NodeStage x = after(ON_1, 1);
        due.is("goes up", Heard.ofPointer(x, 6, false), "3 4@1 6@1 0@1");
        due.is("is up", Heard.ofPointer(x, 6, false), "1 4@1");
        due.is("is up, on 2", Heard.ofPointer(x, ON_2, false), "3 2@1 3@2 4@2");
    }

    private static void goesUpOnNothing() {
        due.about("Terms, THE POINTER: at H, if there is one: .. 6 if it goes up");
        NodeStage x = after(ON_1, 1);
        due.is("goes up on nothing", Heard.ofPointer(x, ON_NOTHING, false), "1 2@1");
        due.is("pressed nothing", x.look(5), -1);
        due.is("onto 1, up", Heard.ofPointer(x, ON_1, false), "2 3@1 4@1");
    }

    private static void pressedOnly() {
        due.about("Terms, THE POINTER: if H is PRESSED, 0: not at another one");
        NodeStage x = after(ON_1, 1);
        due.is("goes up on 2", Heard.ofPointer(x, ON_2, false), "4 2@1 3@2 4@2 6@2");
        due.is("away and back", Heard.ofPointer(after(ON_1, 1, ON_2, 1, ON_NOTHING, 1), ON_1, false), "4 3@1 4@1 6@1 0@1");
    }

    private static void pressedNothingThen() {
        due.about("Terms, THE POINTER: PRESSED is nothing behind that");
        due.is("up on the pressed one", after(ON_1, 1, ON_1, 0).look(5), -1);
        due.is("up on another one", after(ON_1, 1, ON_2, 0).look(5), -1);
        NodeStage x = after(ON_1, 1, ON_1, 0);
        due.is("down again, elsewhere", Heard.ofPointer(x, ON_2, true), "4 2@1 3@2 4@2 5@2");
        due.is("pressed", x.look(5), 2);
        due.is("up at the first", Heard.ofPointer(x, ON_1, false), "4 2@2 3@1 4@1 6@1");
    }

    private static void fewestAndMostEvents() {
        due.about("Promise 15: how many events were dispatched");
        due.is("none", after(ON_NOTHING, 0).pointer(ON_NOTHING, 5, true), 0);
        due.is("on the way down", Heard.ofPointer(after(ON_1, 0), ON_2, true), "4 2@1 3@2 4@2 5@2");
        due.is("the most", Heard.ofPointer(after(ON_2, 1, ON_1, 1), ON_2, false), "5 2@1 3@2 4@2 6@2 0@2");
        NodeStage x = Scene.chain(1);
        x.box(1, 0, 0, 10, 10);
        due.is("without any listener", x.pointer(5, 5, true), 3);
    }

    private static void withoutSentEvents() {
        due.about("Promise 15: (without those that scripts send)");
        NodeStage x = after();
        x.command(0, 5, 7);
        due.is("sent ones are called, not counted", Heard.ofPointer(x, ON_1, false), "2 3@1 7@1 7@1 7@1 4@1 7@1 7@1 7@1");
    }

    private static void composedWithBubblesAndPreventable() {
        due.about("Terms, THE POINTER: all these are composed, with bubbles, and can be prevented");
        // 3 is a check in the shadow 2 of 1; the document hears all types and prevents them.
        int[] types = {2, 3, 4, 5, 6, 0};
        for (int type : types) {
            NodeStage x = Scene.chain(1);
            x.attach(1);
            x.make(2, 0);
            x.insert(2, 3, -1);
            x.box(3, 0, 0, 10, 10);
            x.listen(0, type, 0, 1);
            x.command(1, 2, 0);
            x.pointer(5, 5, true);
            x.pointer(5, 5, false);
            due.is("the mark, type " + type + " is prevented", x.node(3, 6), type == 0 ? 0 : 1);
            x.pointer(50, 50, false);
            due.is("heard outside of the shadow", Heard.latest(x, 1), "0@0>1/3");
            due.is("its type", x.call(0, 4), type);
        }
    }

    private static void foundStaysFound() {
        due.about("Terms, THE POINTER: (H stays as it was found, whatever listeners do.)");
        NodeStage x = after();
        x.command(0, 7, 1);
        due.is("taken out by type 3", Heard.ofPointer(x, ON_1, true), "3 3@1 4@1 5@1");
        due.is("over", x.look(4), 1);
        due.is("pressed", x.look(5), 1);
        due.is("it is out", x.node(1, 1), -1);
        due.is("then it is not found", Heard.ofPointer(x, ON_1, false), "1 2@1");
        NodeStage y = after(ON_1, 0);
        y.command(0, 7, 2);
        due.is("taken out by type 2 at the old one", Heard.ofPointer(y, ON_2, true), "4 2@1 3@2 4@2 5@2");
        due.is("over", y.look(4), 2);
    }

    private static void foundAtTheEdges() {
        due.about("Terms, THE POINTER: with H what is hit there, where a box begins and ends");
        double[][] points = {{Math.nextDown(0.0), 5, -1}, {0, 5, 1}, {Math.nextDown(10.0), 5, 1}, {10, 5, -1},
            {5, Math.nextDown(0.0), -1}, {5, 0, 1}, {5, Math.nextDown(10.0), 1}, {5, 10, -1}};
        for (double[] p : points) {
            NodeStage x = after();
            due.is("pointer(" + p[0] + ", " + p[1] + ", true)", x.pointer(p[0], p[1], true), p[2] == 1 ? 3 : 0);
            due.is("over", x.look(4), (int) p[2]);
            due.is("pressed", x.look(5), (int) p[2]);
        }
    }

    private static void foundAtNoPoint() {
        due.about("Terms, THE POINTER: without H, at what is no point");
        for (double far : new double[] {Double.NaN, Double.POSITIVE_INFINITY, Double.NEGATIVE_INFINITY, Double.MAX_VALUE}) {
            NodeStage x = after(ON_1, 0);
            due.is("to " + far, Heard.ofPointer(x, far, true), "1 2@1");
            due.is("over nothing", x.look(4), -1);
            due.is("pressed nothing", x.look(5), -1);
            due.is("and back", Heard.ofPointer(x, ON_1, false), "3 3@1 4@1 6@1");
        }
    }

    /** Type 3 at 1 makes 116 calls; then so many hear type 4, and one, with once, type 5. */
    private static NodeStage crowd(int ofType4) {
        NodeStage x = Scene.crowd(0, 3, 7);
        x.box(1, 0, 0, 10, 10);
        for (int k = 1; k <= ofType4; k++) {
            x.listen(1, 4, 0, k);
        }
        x.listen(1, 5, 2, 7);
        return x;
    }

    private static void mostCalledInAll() {
        due.about("Terms: at most 120 listeners are called in a call of this class's methods, in all events of a pointer's");
        for (int ofType4 = 2; ofType4 <= 5; ofType4++) {
            NodeStage x = crowd(ofType4);
            due.is("events", x.pointer(5, 5, true), 3);
            due.is("calls of " + (117 + ofType4), x.look(2), Math.min(117 + ofType4, 120));
            due.is("the latest type", x.call(0, 4), ofType4 <= 3 ? 5 : 4);
            due.is("passed over, not removed", x.unlisten(24 + ofType4), ofType4 > 3);
            due.is("pressed", x.look(5), 1);
            x.pointer(5, 5, true);
            due.is("again 120 in the next call", x.look(2), Math.min(117 + ofType4, 120) + ofType4);
        }
    }
}
