import java.util.NoSuchElementException;

/** Promises 11 to 14 at their edges: the bounds of a box and of a scale, where a box ends, what is not there. */
public final class BoxEdgesTest {
    private static final Due due = new Due();
    private static final double ABOVE_1000 = Math.nextUp(1000.0);
    private static final double[] TOO_FAR = {ABOVE_1000, -ABOVE_1000, 1001, -1001, Double.MAX_VALUE, -Double.MAX_VALUE,
        Double.POSITIVE_INFINITY, Double.NEGATIVE_INFINITY, Double.NaN};
    private static final double[] NOT_ABOVE_0 = {0.0, -0.0, -Double.MIN_VALUE, -1, -1000};

    public static void main(String[] args) {
        boxesOfElements();
        farthestX();
        farthestY();
        widestWidth();
        narrowestWidth();
        highestHeight();
        lowestHeight();
        boxAnew();
        zoomBoxesThatAreThere();
        scales();
        layers();
        placeOfBoxesThatAreThere();
        factsOfPlaces();
        placeThrowsNoBoxFirst();
        placeInTheWhole();
        placeInAllBoxes();
        leftAndRightEdge();
        topAndBottomEdge();
        edgesOfTheGreatestBox();
        edgesOfTheSmallestBox();
        edgesOfScaledBoxes();
        hitNothing();
        hitBelowTheDocumentOnly();
        hitGreatestLayer();
        hitLastOfSeveral();
        hitNoPoint();
        due.end();
    }

    private static String placesOf(NodeStage x, int node) {
        return x.place(node, 0) + " " + x.place(node, 1) + " " + x.place(node, 2);
    }

    private static void boxesOfElements() {
        due.about("Promise 11: IllegalArgumentException: there is no such element");
        for (int element : new int[] {1, 3, 5, Scene.LAST_NODE}) {
            NodeStage x = Scene.busy();
            x.remove(element);
            x.box(element, 3, 4, 1, 1);
            due.is("box of " + element, placesOf(x, element), "3.0 4.0 1.0");
        }
        for (int node : Due.outside(0, Scene.LAST_NODE)) {
            due.thrown(Scene::busy, IllegalArgumentException.class, "box", node, 1, 1, 1, 1);
        }
        for (int documentOrShadow : new int[] {0, 2}) {
            due.thrown(Scene::busy, IllegalArgumentException.class, "box", documentOrShadow, 1, 1, 1, 1);
        }
        due.taken(Scene::fullOfNodes, "nothing", "box", 23, 1, 1, 1, 1);
        due.thrown(Scene::fullOfNodes, IllegalArgumentException.class, "box", 24, 1, 1, 1, 1);
    }

    /** Such a box throws, and changes nothing of an element that has a box, nor of one that has none. */
    private static void notTaken(double x, double y, double width, double height) {
        for (int element : new int[] {6, 5}) {
            due.thrown(Scene::busy, IllegalArgumentException.class, "box", element, x, y, width, height);
        }
    }

    private static void farthestX() {
        due.about("Promise 11: IllegalArgumentException: x is not -1000 .. 1000");
        for (double taken : new double[] {-1000, Math.nextUp(-1000.0), -Double.MIN_VALUE, Math.nextDown(1000.0), 1000}) {
            NodeStage x = Scene.busy();
            x.box(6, taken, 1, 1, 1);
            due.is("left", x.place(6, 0), taken);
        }
        for (double far : TOO_FAR) {
            notTaken(far, 1, 1, 1);
        }
    }

    private static void farthestY() {
        due.about("Promise 11: IllegalArgumentException: y is not -1000 .. 1000");
        for (double taken : new double[] {-1000, Math.nextUp(-1000.0), -Double.MIN_VALUE, Math.nextDown(1000.0), 1000}) {
            NodeStage x = Scene.busy();
            x.box(6, 1, taken, 1, 1);
            due.is("top", x.place(6, 1), taken);
        }
        for (double far : TOO_FAR) {
            notTaken(1, far, 1, 1);
        }
    }

    private static void widestWidth() {
        due.about("Promise 11: IllegalArgumentException: width is not -1000 .. 1000");
        for (double taken : new double[] {Math.nextDown(1000.0), 1000}) {
            NodeStage x = Scene.chain(1);
            x.box(1, 0, 0, taken, 1);
            due.is("just within " + taken, x.hit(Math.nextDown(taken), 0), 1);
            due.is("at " + taken, x.hit(taken, 0), -1);
        }
        for (double far : TOO_FAR) {
            notTaken(1, 1, far, 1);
        }
    }

    private static void narrowestWidth() {
        due.about("Promise 11: IllegalArgumentException: width is not above 0");
        due.taken(Scene::busy, "nothing", "box", 6, 1, 1, Double.MIN_VALUE, 1);
        for (double low : NOT_ABOVE_0) {
            notTaken(1, 1, low, 1);
        }
    }

    private static void highestHeight() {
        due.about("Promise 11: IllegalArgumentException: height is not -1000 .. 1000");
        for (double taken : new double[] {Math.nextDown(1000.0), 1000}) {
            NodeStage x = Scene.chain(1);
            x.box(1, 0, 0, 1, taken);
            due.is("just within " + taken, x.hit(0, Math.nextDown(taken)), 1);
            due.is("at " + taken, x.hit(0, taken), -1);
        }
        for (double far : TOO_FAR) {
            notTaken(1, 1, 1, far);
        }
    }

    private static void lowestHeight() {
        due.about("Promise 11: IllegalArgumentException: height is not above 0");
        due.taken(Scene::busy, "nothing", "box", 6, 1, 1, 1, Double.MIN_VALUE);
        for (double low : NOT_ABOVE_0) {
            notTaken(1, 1, 1, low);
        }
    }

    private static void boxAnew() {
        due.about("Promise 11: in place of the one it has; its SCALE is 1, its LAYER 0");
        NodeStage x = Scene.busy();
        due.is("with its layer before", x.hit(30, 30), 6);
        x.box(6, 20, 20, 60, 60);
        due.is("scale 1", placesOf(x, 6), "20.0 20.0 1.0");
        due.is("the size of scale 1", x.hit(79, 79), 6);
        x.zoom(1, 1, 1);
        due.is("layer 0 is below layer 1", x.hit(30, 30), 1);
        x.zoom(1, 1, -1);
        due.is("layer 0 is above layer -1", x.hit(30, 30), 6);
        x.zoom(1, 1, 0);
        due.is("layer 0 is like layer 0: the last one", x.hit(30, 30), 6);
    }

    private static void zoomBoxesThatAreThere() {
        due.about("Promise 12: false (refused) if there is none");
        due.taken(Scene::busy, true, "zoom", 1, 1, 1);
        due.taken(Scene::busy, true, "zoom", Scene.LAST_NODE, 1, 1);
        for (int node : Due.outside(0, Scene.LAST_NODE)) {
            due.refused(Scene::busy, "zoom", node, 1, 1);
        }
        for (int withoutBox : new int[] {0, 2, 3, 5, 7}) {
            due.refused(Scene::busy, "zoom", withoutBox, 1, 1);
        }
        due.refused(Scene::fullOfNodes, "zoom", 24, 1, 1);
        due.refused(NodeStage::new, "zoom", 0, 1, 1);
    }

    private static void scales() {
        due.about("Promise 12: false (refused) if the scale is not so (0.125 .. 4)");
        for (double scale : new double[] {0.125, Math.nextUp(0.125), 1, Math.nextDown(4.0), 4}) {
            NodeStage x = Scene.busy();
            due.is("zoom(6, " + scale + ", 0)", x.zoom(6, scale, 0), true);
            due.is("SIZE", x.place(6, 2), scale);
        }
        double[] wrong = {Math.nextDown(0.125), Math.nextUp(4.0), 0.0, -0.0, -0.125, -1, -4, Double.MIN_VALUE, Double.MAX_VALUE,
            Double.POSITIVE_INFINITY, Double.NEGATIVE_INFINITY, Double.NaN};
        for (double scale : wrong) {
            due.refused(Scene::busy, "zoom", 6, scale, -9);
            due.refused(Scene::busy, "zoom", 4, scale, 9);
        }
    }

    private static void layers() {
        due.about("Promise 12: sets SCALE and LAYER of an element's box: true, for any layer");
        // Of the two in one place, 2 stands behind 1.
        int[][] layersAndHit = {{Integer.MIN_VALUE, Integer.MIN_VALUE, 2}, {Integer.MIN_VALUE + 1, Integer.MIN_VALUE, 1},
            {Integer.MAX_VALUE, Integer.MAX_VALUE, 2}, {Integer.MAX_VALUE, Integer.MAX_VALUE - 1, 1},
            {Integer.MAX_VALUE, Integer.MIN_VALUE, 1}, {Integer.MIN_VALUE, Integer.MAX_VALUE, 2}, {0, -1, 1}, {-1, 0, 2},
            {1, 0, 1}};
        for (int[] l : layersAndHit) {
            NodeStage x = new NodeStage();
            for (int k = 1; k <= 2; k++) {
                x.make(0, 0);
                x.insert(0, k, -1);
                x.box(k, 0, 0, 10, 10);
                due.is("zoom to layer " + l[k - 1], x.zoom(k, 1, l[k - 1]), true);
            }
            due.is("hit with layers " + l[0] + ", " + l[1], x.hit(5, 5), l[2]);
        }
    }

    private static void placeOfBoxesThatAreThere() {
        due.about("Promise 13: NoSuchElementException: it has none");
        due.taken(Scene::busy, 0.0, "place", 1, 0);
        due.taken(Scene::busy, 1.0, "place", Scene.LAST_NODE, 0);
        for (int node : Due.outside(0, Scene.LAST_NODE)) {
            due.thrown(Scene::busy, NoSuchElementException.class, "place", node, 0);
        }
        for (int withoutBox : new int[] {0, 2, 3, 5, 7}) {
            due.thrown(Scene::busy, NoSuchElementException.class, "place", withoutBox, 0);
        }
        due.thrown(Scene::fullOfNodes, NoSuchElementException.class, "place", 24, 0);
    }

    private static void factsOfPlaces() {
        due.about("Promise 13: else IllegalArgumentException: another what");
        due.taken(Scene::busy, 5.0, "place", 4, 0);
        due.taken(Scene::busy, 20.0, "place", 6, 1);
        due.taken(Scene::busy, 0.5, "place", 6, 2);
        for (int what : Due.outside(0, 2)) {
            due.thrown(Scene::busy, IllegalArgumentException.class, "place", 1, what);
            due.thrown(Scene::busy, IllegalArgumentException.class, "place", Scene.LAST_NODE, what);
        }
    }

    private static void placeThrowsNoBoxFirst() {
        due.about("Promise 13: NoSuchElementException ..; else IllegalArgumentException");
        for (int node : new int[] {0, 2, 3, -1, 9}) {
            for (int what : Due.outside(0, 2)) {
                due.thrown(Scene::busy, NoSuchElementException.class, "place", node, what);
            }
        }
    }

    private static void placeInTheWhole() {
        due.about("Terms, BOXES: relative to the nearest above or hosting element with a box, or the whole");
        NodeStage x = Scene.chain(23);
        x.box(23, 3, 4, 1, 1);
        due.is("none above it has one", placesOf(x, 23), "3.0 4.0 1.0");
        x.box(23, -0.0, -0.0, 1, 1);
        due.is("origin 0 and -0.0 is 0.0", placesOf(x, 23), "0.0 0.0 1.0");
        x.box(23, 3, 4, 1, 1);
        x.box(1, 10, 20, 1, 1);
        due.is("the farthest has one", placesOf(x, 23), "13.0 24.0 1.0");
        x.box(22, 100, 200, 1, 1);
        due.is("the nearest has one", placesOf(x, 23), "113.0 224.0 1.0");
        NodeStage y = Scene.nestedHosts();
        y.box(23, 3, 4, 1, 1);
        y.box(1, 10, 20, 1, 1);
        y.zoom(1, 2, 0);
        due.is("hosting, the farthest", placesOf(y, 23), "16.0 28.0 2.0");
        y.box(21, 1, 1, 1, 1);
        due.is("hosting, the nearest", placesOf(y, 23), "18.0 30.0 2.0");
    }

    private static void placeInAllBoxes() {
        due.about("Terms, BOXES: SIZE = its SIZE * SCALE, of the most boxes with the last scales");
        for (double scale : new double[] {0.125, 4}) {
            NodeStage x = Scene.chain(23);
            double left = 0;
            double size = 1;
            for (int k = 1; k <= 23; k++) {
                x.box(k, 1000, -1000, 1000, 1000);
                x.zoom(k, scale, 0);
                left = left + 1000 * size;
                size = size * scale;
            }
            due.is("left of the innermost", x.place(23, 0), left);
            due.is("top of the innermost", x.place(23, 1), -left);
            due.is("SIZE of the innermost", x.place(23, 2), size);
        }
    }

    private static void leftAndRightEdge() {
        due.about("Terms, BOXES: it reaches from left up to, but not at, left + width * SIZE");
        double[][] points = {{Math.nextDown(10.0), -1}, {10, 1}, {12, 1}, {Math.nextDown(14.0), 1}, {14, -1},
            {Math.nextUp(14.0), -1}};
        NodeStage x = Scene.chain(1);
        x.box(1, 10, 20, 4, 8);
        for (double[] p : points) {
            due.is("hit(" + p[0] + ", 22)", x.hit(p[0], 22), (int) p[1]);
        }
    }

    private static void topAndBottomEdge() {
        due.about("Terms, BOXES: likewise down");
        double[][] points = {{Math.nextDown(20.0), -1}, {20, 1}, {24, 1}, {Math.nextDown(28.0), 1}, {28, -1},
            {Math.nextUp(28.0), -1}};
        NodeStage x = Scene.chain(1);
        x.box(1, 10, 20, 4, 8);
        for (double[] p : points) {
            due.is("hit(12, " + p[0] + ")", x.hit(12, p[0]), (int) p[1]);
        }
    }

    private static void edgesOfTheGreatestBox() {
        due.about("Terms, BOXES: where the greatest box ends");
        NodeStage x = Scene.chain(1);
        x.box(1, -1000, -1000, 1000, 1000);
        due.is("its first point", x.hit(-1000, -1000), 1);
        due.is("its last point", x.hit(-Double.MIN_VALUE, -Double.MIN_VALUE), 1);
        due.is("right of it", x.hit(0, -1), -1);
        due.is("below it", x.hit(-1, -0.0), -1);
        due.is("left of it", x.hit(-ABOVE_1000, -1), -1);
        due.is("above it", x.hit(-1, -ABOVE_1000), -1);
        x.zoom(1, 4, 0);
        due.is("its last point, scale 4", x.hit(Math.nextDown(3000.0), Math.nextDown(3000.0)), 1);
        due.is("right of it, scale 4", x.hit(3000, 0), -1);
        due.is("below it, scale 4", x.hit(0, 3000), -1);
    }

    private static void edgesOfTheSmallestBox() {
        due.about("Terms, BOXES: where the smallest box ends");
        NodeStage x = Scene.chain(1);
        x.box(1, 0, 0, Double.MIN_VALUE, Double.MIN_VALUE);
        due.is("its one point", x.hit(0, 0), 1);
        due.is("the same point", x.hit(-0.0, -0.0), 1);
        due.is("right of it", x.hit(Double.MIN_VALUE, 0), -1);
        due.is("below it", x.hit(0, Double.MIN_VALUE), -1);
        x.box(1, 1000, 1000, Double.MIN_VALUE, Double.MIN_VALUE);
        due.is("left + width is left, so it holds nothing", x.hit(1000, 1000), -1);
    }

    private static void edgesOfScaledBoxes() {
        due.about("Terms, BOXES: left = its left + x * its SIZE, and up to left + width * SIZE");
        // 1 reaches from 10 to 10 + 40 * 0.5, 2 in it from 10 + 6 * 0.5 to 13 + 4 * 0.5 * 4.
        NodeStage x = Scene.chain(2);
        x.box(1, 10, 20, 40, 40);
        x.zoom(1, 0.5, 0);
        x.box(2, 6, 8, 4, 4);
        x.zoom(2, 4, 0);
        double[][] points = {{Math.nextDown(10.0), 30, -1}, {10, 30, 1}, {Math.nextDown(30.0), 30, 1}, {30, 30, -1},
            {20, Math.nextDown(20.0), -1}, {20, 20, 1}, {20, Math.nextDown(40.0), 1}, {20, 40, -1},
            {Math.nextDown(13.0), 30, 1}, {13, 30, 2}, {Math.nextDown(21.0), 30, 2}, {21, 30, 1},
            {15, Math.nextDown(24.0), 1}, {15, 24, 2}, {15, Math.nextDown(32.0), 2}, {15, 32, 1}};
        for (double[] p : points) {
            due.is("hit(" + p[0] + ", " + p[1] + ")", x.hit(p[0], p[1]), (int) p[2]);
        }
    }

    private static void hitNothing() {
        due.about("Promise 14: what is HIT at a point; -1 if nothing");
        due.taken(NodeStage::new, -1, "hit", 0, 0);
        due.taken(() -> Scene.chain(23), -1, "hit", 0, 0);
        due.taken(Scene::busy, 1, "hit", 0, 0);
        due.taken(Scene::busy, -1, "hit", -1, 0);
        due.taken(Scene::busy, -1, "hit", 0, -1);
        due.taken(Scene::busy, -1, "hit", 50, 50);
        NodeStage x = Scene.chain(23);
        x.box(23, 0, 0, 1, 1);
        due.is("the lowest of all", x.hit(0, 0), 23);
    }

    private static void hitBelowTheDocumentOnly() {
        due.about("Terms, HIT: (Not: an element that is not below the document, by parents and hosts.)");
        NodeStage x = Scene.nestedHosts();
        x.box(23, 0, 0, 1, 1);
        due.is("by parents and hosts", x.hit(0, 0), 23);
        x.remove(1);
        due.is("the outermost host is out", x.hit(0, 0), -1);
        x.insert(0, 1, -1);
        x.remove(23);
        due.is("it is out itself", x.hit(0, 0), -1);
        x.insert(0, 23, -1);
        due.is("a child of the document", x.hit(0, 0), 23);
        due.is("its place is reckoned all the same", Scene.busy().place(Scene.LAST_NODE, 0), 1.0);
    }

    private static void hitGreatestLayer() {
        due.about("Terms, HIT: that with the greatest LAYER");
        // All 23 in one place; each in turn has a layer that is just above, or just below, all others.
        for (int node = 1; node <= 23; node++) {
            NodeStage x = Scene.chain(23);
            for (int k = 1; k <= 23; k++) {
                x.box(k, 0, 0, 10, 10);
            }
            x.zoom(node, 1, 1);
            due.is("layer 1 of " + node, x.hit(5, 5), node);
            x.zoom(node, 1, -1);
            due.is("layer -1 of " + node, x.hit(5, 5), node == 23 ? 22 : 23);
        }
    }

    private static void hitLastOfSeveral() {
        due.about("Terms, HIT: of several the last in SHADOW ORDER");
        // The order in the busy scene: 0, 1, what is below its shadow (3), its children (4, 5), 6.
        int[] order = {1, 3, 4, 5, 6};
        for (int last = 0; last < order.length; last++) {
            NodeStage x = Scene.busy();
            for (int k = 0; k < order.length; k++) {
                x.box(order[k], 0, 0, 10, 10);
                x.zoom(order[k], 1, k <= last ? 3 : 2);
            }
            due.is("the last of " + (last + 1), x.hit(5, 5), order[last]);
        }
    }

    private static void hitNoPoint() {
        due.about("Promise 14: -1 if nothing, at what is no point");
        for (double far : new double[] {Double.NaN, Double.POSITIVE_INFINITY, Double.NEGATIVE_INFINITY, Double.MAX_VALUE,
            -Double.MAX_VALUE}) {
            due.taken(Scene::busy, -1, "hit", far, 5);
            due.taken(Scene::busy, -1, "hit", 5, far);
            due.taken(Scene::busy, -1, "hit", far, far);
        }
        due.taken(Scene::busy, 1, "hit", -0.0, -0.0);
    }
}
