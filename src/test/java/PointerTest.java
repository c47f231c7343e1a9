/** Promise 15: the pointer, and which events its moves make. */
public final class PointerTest {
    private static final Due due = new Due();

    public static void main(String[] args) {
        overAndOut();
        downAndUp();
        upElsewhere();
        due.end();
    }

    private static void overAndOut() {
        NodeStage x = Scene.twoBoxes();
        due.is("over nothing", Heard.ofPointer(x, 15, false), "0");
        due.is("to 1", Heard.ofPointer(x, 5, false), "2 3@1 4@1");
        due.is("over", x.look(4), 1);
        due.is("within 1", Heard.ofPointer(x, 6, false), "1 4@1");
        due.is("not moved at all", Heard.ofPointer(x, 6, false), "1 4@1");
        due.is("from 1 to 2", Heard.ofPointer(x, 25, false), "3 2@1 3@2 4@2");
        due.is("over", x.look(4), 2);
        due.is("to nothing", Heard.ofPointer(x, 15, false), "1 2@2");
        due.is("over", x.look(4), -1);
        due.is("nothing to nothing", Heard.ofPointer(x, 16, false), "0");
        due.is("pressed", x.look(5), -1);
    }

    private static void downAndUp() {
        NodeStage x = Scene.twoBoxes();
        due.is("down at once", Heard.ofPointer(x, 5, true), "3 3@1 4@1 5@1");
        due.is("pressed", x.look(5), 1);
        due.is("still down", Heard.ofPointer(x, 6, true), "1 4@1");
        due.is("still pressed", x.look(5), 1);
        due.is("up", Heard.ofPointer(x, 7, false), "3 4@1 6@1 0@1");
        due.is("pressed nothing", x.look(5), -1);
        due.is("still up", Heard.ofPointer(x, 7, false), "1 4@1");
        due.is("down again", Heard.ofPointer(x, 7, true), "2 4@1 5@1");
    }

    private static void upElsewhere() {
        NodeStage x = Scene.twoBoxes();
        x.pointer(5, 5, true);
        due.is("moved to another one", Heard.ofPointer(x, 25, true), "3 2@1 3@2 4@2");
        due.is("pressed is the first", x.look(5), 1);
        due.is("up there", Heard.ofPointer(x, 25, false), "2 4@2 6@2");
        due.is("pressed nothing", x.look(5), -1);
        x.pointer(5, 5, true);
        x.pointer(25, 5, true);
        due.is("back and up", Heard.ofPointer(x, 5, false), "5 2@2 3@1 4@1 6@1 0@1");
    }
}
