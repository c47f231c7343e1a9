/** Promises 10 and 19: the paths of events, what listeners do on their way, and what is kept of it. */
public final class DispatchTest {
    private static final Due due = new Due();
    private static final int BUBBLES = 1;
    private static final int PREVENTABLE = 2;
    private static final int COMPOSED = 4;
    private static final int CAPTURE = 1;
    private static final int ONCE = 2;
    private static final int PASSIVE = 4;

    public static void main(String[] args) {
        courses();
        pathThroughSlot();
        pathOutOfShadow();
        pathThroughSlotOfSlot();
        pathFromShadowItself();
        pathOfLooseTree();
        pathStaysAsItWas();
        stop();
        stopAtTargetInFirstCourse();
        stopAtOnce();
        prevent();
        removeCommand();
        again();
        addedDuringTurn();
        sendCommand();
        sendStaysInShadow();
        throwCommand();
        takeOut();
        move();
        once();
        markTurnedBack();
        marksOfSentEvents();
        looks();
        due.end();
    }

    /** The document with 1 in it and 2 in 1. */
    private static NodeStage chain(int kind) {
        NodeStage x = new NodeStage();
        x.make(0, 0);
        x.make(kind, 0);
        x.insert(0, 1, -1);
        x.insert(1, 2, -1);
        return x;
    }

    private static void courses() {
        due.about("Terms, DISPATCHING: from the last entry to the first the listeners with capture, "
                + "from the first to the last those without");
        NodeStage x = chain(0);
        Heard.everywhere(x, 1, 0);
        Heard.everywhere(x, 1, CAPTURE);
        x.listen(2, 2, 0, 0);
        due.is("with bubbles", Heard.of(x, 2, 1, BUBBLES), "3@0>2/1 4@1>2/1 5@2>2/2 2@2>2/2 1@1>2/3 0@0>2/3");
        due.is("its type", x.call(0, 4), 1);
        due.is("without bubbles", Heard.of(x, 2, 1, 0), "3@0>2/1 4@1>2/1 5@2>2/2 2@2>2/2");
        due.is("at the middle", Heard.of(x, 1, 1, BUBBLES), "3@0>1/1 4@1>1/2 1@1>1/2 0@0>1/3");
        due.is("at the document", Heard.of(x, 0, 1, BUBBLES), "3@0>0/2 0@0>0/2");
        due.is("another type", Heard.of(x, 2, 2, BUBBLES), "6@2>2/2");
        due.is("its type", x.call(0, 4), 2);
        due.is("a type without listeners", Heard.of(x, 2, 7, BUBBLES), "");
        due.is("not prevented", x.dispatch(2, 1, 7), true);
    }

    /** 1 is a host in the document with the shadow 2, in it 3, in that the slot 4; 5 is 1's child. */
    private static NodeStage slotted() {
        NodeStage x = new NodeStage();
        x.make(0, 0);
        x.attach(1);
        x.make(0, 0);
        x.make(1, 0);
        x.make(0, 0);
        x.insert(0, 1, -1);
        x.insert(2, 3, -1);
        x.insert(3, 4, -1);
        x.insert(1, 5, -1);
        Heard.everywhere(x, 1, 0);
        return x;
    }

    private static void pathThroughSlot() {
        due.about("Terms, PATH: the next node of an element is its assigned slot, if it has one, else its parent");
        NodeStage x = slotted();
        String whole = "5@5>5/2 4@4>5/3 3@3>5/3 2@2>5/3 1@1>5/3 0@0>5/3";
        due.is("through the slot", Heard.of(x, 5, 1, BUBBLES), whole);
        due.is("through the slot, composed", Heard.of(x, 5, 1, BUBBLES | COMPOSED), whole);
        due.is("through the slot, no bubbles", Heard.of(x, 5, 1, 0), "5@5>5/2");
        x.remove(4);
        due.is("without the slot", Heard.of(x, 5, 1, BUBBLES), "5@5>5/2 1@1>5/3 0@0>5/3");
    }

    private static void pathOutOfShadow() {
        due.about("Terms, PATH: an entry without a target, if the root of what was the last target is N "
                + "or above or hosting N; else with target N");
        NodeStage x = slotted();
        due.is("not composed", Heard.of(x, 3, 1, BUBBLES), "3@3>3/2 2@2>3/3");
        due.is("composed", Heard.of(x, 3, 1, BUBBLES | COMPOSED), "3@3>3/2 2@2>3/3 1@1>1/2 0@0>1/3");
        due.is("composed, no bubbles", Heard.of(x, 3, 1, COMPOSED), "3@3>3/2 1@1>1/2");
        x.listen(1, 1, CAPTURE, 1);
        x.listen(2, 1, CAPTURE, 1);
        due.is("captured", Heard.of(x, 3, 1, COMPOSED), "6@1>1/2 7@2>3/1 3@3>3/2 1@1>1/2");
    }

    private static void pathThroughSlotOfSlot() {
        due.about("Terms, PATH: the next node of a slot is its assigned slot, too");
        // In the shadow 2 of 1 stands the host 3 with the slot 5 as its child; 3's shadow 4 has the slot 6.
        NodeStage x = new NodeStage();
        x.make(0, 0);
        x.attach(1);
        x.make(0, 0);
        x.attach(3);
        x.make(1, 2);
        x.make(1, 2);
        x.make(0, 2);
        x.insert(0, 1, -1);
        x.insert(2, 3, -1);
        x.insert(3, 5, -1);
        x.insert(4, 6, -1);
        x.insert(1, 7, -1);
        Heard.everywhere(x, 1, 0);
        due.is("through both slots", Heard.of(x, 7, 1, BUBBLES),
                "7@7>7/2 5@5>7/3 6@6>7/3 4@4>7/3 3@3>7/3 2@2>7/3 1@1>7/3 0@0>7/3");
        due.is("from the outer slot", Heard.of(x, 5, 1, BUBBLES), "5@5>5/2 6@6>5/3 4@4>5/3 3@3>5/3 2@2>5/3");
        due.is("from the inner slot, composed", Heard.of(x, 6, 1, BUBBLES | COMPOSED),
                "6@6>6/2 4@4>6/3 3@3>3/2 2@2>3/3 1@1>1/2 0@0>1/3");
    }

    private static void pathFromShadowItself() {
        due.about("Terms, PATH: first T, with target T, also if T is a shadow");
        NodeStage x = slotted();
        due.is("not composed", Heard.of(x, 2, 1, BUBBLES), "2@2>2/2");
        due.is("composed", Heard.of(x, 2, 1, BUBBLES | COMPOSED), "2@2>2/2 1@1>1/2 0@0>1/3");
    }

    private static void pathOfLooseTree() {
        due.about("Terms, PATH: as long as there is a next node N, outside of the document, too");
        NodeStage x = slotted();
        x.remove(1);
        due.is("its top is the last one", Heard.of(x, 5, 1, BUBBLES | COMPOSED),
                "5@5>5/2 4@4>5/3 3@3>5/3 2@2>5/3 1@1>5/3");
        due.is("out of its shadow", Heard.of(x, 4, 1, BUBBLES | COMPOSED), "4@4>4/2 3@3>4/3 2@2>4/3 1@1>1/2");
    }

    private static void pathStaysAsItWas() {
        due.about("Terms, PATH: the path does not change any more then");
        NodeStage x = slotted();
        x.command(1, 7, 5);
        x.command(1, 7, 1);
        x.command(1, 7, 3);
        x.listen(5, 1, CAPTURE, 1);
        due.is("the path that was", Heard.of(x, 5, 1, BUBBLES),
                "6@5>5/2 5@5>5/2 4@4>5/3 3@3>5/3 2@2>5/3 1@1>5/3 0@0>5/3");
        due.is("the next path", Heard.of(x, 5, 1, BUBBLES), "6@5>5/2 5@5>5/2");
    }

    private static void stop() {
        due.about("Terms, STOP: the event's propagation is stopped; a stop ends the courses behind the present node");
        NodeStage x = chain(0);
        x.command(1, 0, 0);
        Heard.everywhere(x, 1, 0);
        x.listen(1, 1, 0, 1);
        x.listen(1, 1, 0, 2);
        due.is("in the second course", Heard.of(x, 2, 1, BUBBLES), "2@2>2/2 1@1>2/3 3@1>2/3 4@1>2/3");
        x.listen(1, 1, CAPTURE, 1);
        x.listen(1, 1, CAPTURE, 2);
        x.listen(2, 1, CAPTURE, 0);
        due.is("in the first course", Heard.of(x, 2, 1, BUBBLES), "5@1>2/1 6@1>2/1");
        due.is("a new event is not stopped", Heard.of(x, 0, 1, BUBBLES), "0@0>0/2");
    }

    private static void stopAtTargetInFirstCourse() {
        due.about("Terms, STOP: in the first course at the target");
        NodeStage x = chain(0);
        x.command(1, 0, 0);
        x.listen(2, 1, CAPTURE, 1);
        x.listen(2, 1, CAPTURE, 2);
        x.listen(2, 1, 0, 2);
        due.is("behind it nothing", Heard.of(x, 2, 1, BUBBLES), "0@2>2/2 1@2>2/2");
    }

    private static void stopAtOnce() {
        due.about("Terms, STOP AT ONCE: also no listener of this node is called any more");
        NodeStage x = chain(0);
        x.command(1, 1, 0);
        x.command(1, 2, 0);
        Heard.everywhere(x, 1, 0);
        x.listen(1, 1, 0, 1);
        x.listen(1, 1, 0, 2);
        due.is("in the second course", Heard.of(x, 2, 1, BUBBLES), "2@2>2/2 1@1>2/3 3@1>2/3");
        due.is("the script goes on", x.dispatch(2, 1, BUBBLES | PREVENTABLE), false);
        x.listen(1, 1, CAPTURE, 1);
        x.listen(1, 1, CAPTURE, 2);
        due.is("in the first course", Heard.of(x, 2, 1, BUBBLES), "5@1>2/1");
    }

    private static void prevent() {
        due.about("Terms, PREVENT: it is prevented, and goes on");
        NodeStage x = chain(0);
        x.command(1, 2, 0);
        x.listen(0, 1, 0, 1);
        due.is("can be", x.dispatch(2, 1, BUBBLES | PREVENTABLE), false);
        due.is("can not be", x.dispatch(2, 1, BUBBLES | COMPOSED), true);
        due.is("is not reached", x.dispatch(2, 1, PREVENTABLE), true);
        x.listen(0, 2, PASSIVE, 1);
        due.is("passive", x.dispatch(2, 2, BUBBLES | PREVENTABLE), true);
        x.listen(1, 2, 0, 1);
        due.is("prevented before the passive one", x.dispatch(2, 2, BUBBLES | PREVENTABLE), false);
        due.is("it goes on all the same", x.call(0, 1), 0);
    }

    private static void removeCommand() {
        due.about("Terms, CALLED: those that are not removed when theirs comes");
        NodeStage x = chain(0);
        x.command(1, 3, 2);
        x.command(1, 3, 0);
        x.command(1, 3, 9);
        x.command(1, 3, -1);
        x.listen(2, 1, 0, 1);
        x.listen(2, 1, 0, 2);
        x.listen(2, 1, 0, 3);
        x.listen(2, 1, 0, 4);
        due.is("itself and one behind it", Heard.of(x, 2, 1, 0), "0@2>2/2 1@2>2/2 3@2>2/2");
        due.is("then", Heard.of(x, 2, 1, 0), "1@2>2/2 3@2>2/2");
        due.is("unlisten(2)", x.unlisten(2), false);
        due.is("listeners", x.look(1), 4);
    }

    private static void again() {
        due.about("Terms, AGAIN: a listener like listener n is added (its node, type, options and script)");
        NodeStage x = chain(0);
        x.listen(2, 3, CAPTURE | PASSIVE, 2);
        x.command(1, 4, 0);
        x.command(1, 4, 1);
        x.command(1, 4, 7);
        x.command(1, 4, -1);
        x.command(2, 2, 0);
        x.listen(1, 1, 0, 1);
        x.dispatch(1, 1, 0);
        due.is("like those that are there", x.look(1), 2);
        x.unlisten(0);
        x.dispatch(1, 1, 0);
        due.is("like a removed one", x.look(1), 3);
        due.is("its node, type and options", Heard.of(x, 2, 3, PREVENTABLE), "2@2>2/2");
        due.is("passive as that one", x.dispatch(2, 3, PREVENTABLE), true);
        due.is("its capture and script", x.listen(2, 3, CAPTURE, 2), -1);
        x.make(0, 0);
        for (int k = 3; k < 40; k++) {
            x.listen(3, k % 8, k / 8 % 2, k / 16 + 2);
        }
        due.is("forty", x.look(1), 40);
        x.unlisten(2);
        x.dispatch(1, 1, 0);
        due.is("no forty-first", x.look(1), 40);
        due.is("nothing hears type 3 at 2", Heard.of(x, 2, 3, 0), "");
    }

    private static void addedDuringTurn() {
        due.about("Terms, CALLED: those that are there when the entry's turn begins");
        // Listener 0 adds one for this turn's node, one for the next course and one for the next entry.
        NodeStage x = chain(0);
        x.listen(2, 1, CAPTURE, 2);
        x.listen(2, 1, 0, 2);
        x.listen(1, 1, 0, 2);
        for (int k = 0; k < 3; k++) {
            x.unlisten(k);
            x.command(1, 4, k);
        }
        x.listen(2, 1, CAPTURE, 1);
        due.is("added", Heard.of(x, 2, 1, BUBBLES), "3@2>2/2 5@2>2/2 6@1>2/3");
        due.is("next time", Heard.of(x, 2, 1, BUBBLES), "3@2>2/2 4@2>2/2 5@2>2/2 6@1>2/3");
    }

    private static void sendCommand() {
        due.about("Terms, SEND: an event of type n, with bubbles, that can be prevented, is dispatched at the current node");
        NodeStage x = chain(0);
        x.command(1, 5, 6);
        x.command(1, 5, 8);
        x.command(1, 5, -1);
        x.command(2, 2, 0);
        x.listen(0, 6, 0, 2);
        x.listen(1, 6, 0, 0);
        x.listen(2, 6, 0, 0);
        x.listen(1, 1, 0, 1);
        x.listen(0, 1, 0, 0);
        due.is("sent at the current node, then goes on", Heard.of(x, 2, 1, BUBBLES), "3@1>2/3 1@1>1/2 0@0>1/3 4@0>2/3");
        due.is("type of the outer event", x.call(0, 4), 1);
        due.is("type of the sent event", x.call(1, 4), 6);
        due.is("the sent one is prevented, not this one", x.dispatch(2, 1, BUBBLES | PREVENTABLE), true);
        NodeStage y = chain(0);
        y.command(1, 5, 2);
        y.command(2, 1, 0);
        y.listen(1, 1, 0, 1);
        y.listen(1, 2, 0, 2);
        y.listen(1, 1, 0, 3);
        due.is("a stop of the sent one is its own", Heard.of(y, 1, 1, BUBBLES), "0@1>1/2 1@1>1/2 2@1>1/2");
    }

    private static void sendStaysInShadow() {
        due.about("Terms, SEND: not composed");
        NodeStage x = slotted();
        x.command(1, 5, 2);
        x.listen(3, 3, 0, 1);
        Heard.everywhere(x, 2, 0);
        due.is("not composed", Heard.of(x, 3, 3, BUBBLES | COMPOSED), "6@3>3/2 10@3>3/2 9@2>3/3");
    }

    private static void throwCommand() {
        due.about("Terms, THROW: the script ends, nothing else does");
        NodeStage x = chain(0);
        x.command(1, 6, 0);
        x.command(1, 2, 0);
        x.command(1, 1, 0);
        x.listen(2, 1, 0, 1);
        x.listen(2, 1, 0, 2);
        x.listen(1, 1, 0, 1);
        due.is("the script ends, nothing else does", Heard.of(x, 2, 1, BUBBLES), "0@2>2/2 1@2>2/2 2@1>2/3");
        due.is("errors", x.look(3), 2);
        due.is("not prevented", x.dispatch(2, 1, BUBBLES | PREVENTABLE), true);
        due.is("errors", x.look(3), 4);
    }

    private static void takeOut() {
        due.about("Terms, TAKE OUT node n from its parent");
        NodeStage x = chain(0);
        x.command(1, 7, 2);
        x.command(1, 7, 2);
        x.command(1, 7, 0);
        x.command(1, 7, -1);
        x.command(1, 7, 3);
        x.listen(2, 1, 0, 1);
        x.listen(0, 1, 0, 0);
        due.is("it goes on", Heard.of(x, 2, 1, BUBBLES), "0@2>2/2 1@0>2/3");
        due.is("parent of 2", x.node(2, 1), -1);
        due.is("children of 1", x.node(1, 5), 0);
        due.is("parent of 1", x.node(1, 1), 0);
    }

    private static void move() {
        due.about("Terms, MOVE: element n is inserted into the current node at the end");
        NodeStage x = slotted();
        x.make(0, 0);
        x.insert(5, 6, -1);
        x.make(0, 0);
        x.insert(5, 7, -1);
        x.command(1, 8, 6);
        x.command(1, 8, 5);
        x.command(1, 8, 1);
        x.command(1, 8, 2);
        x.command(1, 8, 3);
        x.listen(5, 4, 0, 1);
        x.dispatch(5, 4, 0);
        due.is("children of 5", x.child(5, 0) * 100 + x.child(5, 1) * 10 + x.child(5, 2), 763);
        due.is("the parent stays", x.node(5, 1), 1);
        due.is("the shadow's children", x.node(2, 5), 0);
        x.command(2, 8, 0);
        x.command(2, 8, -1);
        x.command(2, 8, 24);
        x.command(2, 8, 6);
        x.listen(2, 4, 0, 2);
        x.dispatch(2, 4, 0);
        due.is("children of the shadow", x.node(2, 5), 1);
        due.is("moved into the shadow", x.child(2, 0), 6);
    }

    private static void once() {
        due.about("Terms, CALLED: one with once is removed, the call is written down, and its script is done");
        NodeStage x = chain(0);
        x.command(1, 5, 1);
        x.listen(2, 1, ONCE, 1);
        x.listen(1, 1, ONCE | CAPTURE, 0);
        x.listen(2, 1, 0, 0);
        due.is("removed before its script", Heard.of(x, 2, 1, BUBBLES), "1@1>2/1 0@2>2/2 2@2>2/2 2@2>2/2");
        due.is("not a second time", Heard.of(x, 2, 1, BUBBLES), "2@2>2/2");
        due.is("unlisten(0)", x.unlisten(0), false);
        due.is("unlisten(1)", x.unlisten(1), false);
    }

    private static void markTurnedBack() {
        due.about("Terms, DISPATCHING: at last the mark that was turned is turned back, if the event was prevented");
        NodeStage x = chain(2);
        x.command(1, 2, 0);
        x.listen(0, 0, 0, 1);
        due.is("prevented", x.dispatch(2, 0, BUBBLES | PREVENTABLE), false);
        due.is("turned back to off", x.node(2, 6), 0);
        x.dispatch(2, 0, BUBBLES);
        due.is("cannot be prevented", x.node(2, 6), 1);
        x.dispatch(2, 0, BUBBLES | PREVENTABLE);
        due.is("turned back to on", x.node(2, 6), 1);
        // A listener takes the check out: its mark is turned back all the same.
        x.command(1, 7, 2);
        x.dispatch(2, 0, BUBBLES | PREVENTABLE);
        due.is("turned back, taken out", x.node(2, 6), 1);
        due.is("taken out", x.node(2, 1), -1);
    }

    private static void marksOfSentEvents() {
        due.about("Terms, DISPATCHING: the mark that was turned is turned back, of events within events");
        NodeStage x = chain(2);
        x.command(1, 5, 0);
        x.listen(2, 1, 0, 1);
        x.dispatch(2, 1, 0);
        due.is("a sent event of type 0", x.node(2, 6), 1);
        x.command(2, 5, 0);
        x.listen(2, 0, 0, 2);
        x.dispatch(2, 0, 0);
        due.is("turned four times", x.node(2, 6), 1);
        NodeStage y = chain(2);
        y.command(1, 5, 0);
        y.command(2, 2, 0);
        y.listen(2, 1, 0, 1);
        y.listen(0, 0, 0, 2);
        y.dispatch(2, 1, 0);
        due.is("a sent event can be prevented", y.node(2, 6), 0);
        // The outer event turns the mark on, the sent one off, and only the outer one is prevented.
        NodeStage z = chain(2);
        z.command(1, 5, 0);
        z.command(1, 2, 0);
        z.listen(2, 0, ONCE, 1);
        due.is("the outer one is prevented", z.dispatch(2, 0, BUBBLES | PREVENTABLE), false);
        due.is("what it turned is turned once more", z.node(2, 6), 1);
    }

    private static void looks() {
        due.about("Promise 19: nodes, listeners, calls ever, ERRORS, OVER and PRESSED");
        NodeStage x = chain(0);
        x.attach(1);
        x.command(1, 6, 0);
        x.listen(0, 4, 0, 1);
        x.listen(0, 4, 1, 0);
        x.box(1, 0, 0, 10, 10);
        x.pointer(5, 5, true);
        int[] looks = {4, 2, 2, 1, 1, 1};
        for (int what = 0; what < looks.length; what++) {
            due.is("look(" + what + ")", x.look(what), looks[what]);
        }
        for (int what : new int[] {-1, 6, Integer.MIN_VALUE, Integer.MAX_VALUE}) {
            due.is("look(" + what + ")", x.look(what), -1);
        }
        x.pointer(50, 50, true);
        due.is("over nothing", x.look(4), -1);
        due.is("still pressed", x.look(5), 1);
    }
}
