/** All that the reading calls tell of a stage, as one text. */
final class Sight {
    private Sight() {
    }

    static String of(NodeStage stage) {
        StringBuilder text = new StringBuilder();
        for (int what = -1; what <= 6; what++) {
            text.append(stage.look(what)).append(' ');
        }
        for (int node = -1; node <= 24; node++) {
            text.append("\nnode ").append(node).append(':');
            for (int what = -1; what <= 8; what++) {
                text.append(' ').append(stage.node(node, what));
            }
            text.append(" children");
            for (int k = -1; k <= stage.node(node, 5); k++) {
                text.append(' ').append(stage.child(node, k));
            }
            text.append(" box");
            for (int what = 0; what <= 2; what++) {
                text.append(' ').append(placeOf(stage, node, what));
            }
        }
        for (int k = -1; k <= 32; k++) {
            text.append("\ncall ").append(k).append(':');
            for (int what = -1; what <= 5; what++) {
                text.append(' ').append(stage.call(k, what));
            }
        }
        text.append("\nhits");
        for (double x = -15; x <= 60; x += 7.5) {
            for (double y = -15; y <= 60; y += 7.5) {
                text.append(' ').append(stage.hit(x, y));
            }
        }
        return text.toString();
    }

    private static String placeOf(NodeStage stage, int node, int what) {
        try {
            return String.valueOf(stage.place(node, what));
        } catch (java.util.NoSuchElementException e) {
            return "none";
        }
    }
}
