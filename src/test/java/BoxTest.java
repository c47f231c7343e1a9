/** Promises 11 to 14: boxes, where they are, and what is hit at a point. */
public final class BoxTest {
    private static final Due due = new Due();

    public static void main(String[] args) {
        box();
        boxInPlaceOfAnother();
        zoom();
        place();
        placeThroughHosts();
        placeIsRoundedFromOutside();
        hitLayers();
        hitShadowOrder();
        due.end();
    }

    private static String placesOf(NodeStage x, int node) {
        return x.place(node, 0) + " " + x.place(node, 1) + " " + x.place(node, 2);
    }

    private static void box() {
        NodeStage x = Scene.chain(2);
        x.make(1, 0);
        x.make(2, 0);
        x.box(1, 1.5, -2.25, 3, 4);
        due.is("a box in the whole", placesOf(x, 1), "1.5 -2.25 1.0");
        x.box(2, 10, 20, 3, 4);
        due.is("a box in a box", placesOf(x, 2), "11.5 17.75 1.0");
        for (int node = 3; node <= 4; node++) {
            x.box(node, 7, 8, 1, 1);
            due.is("a slot's or check's box", placesOf(x, node), "7.0 8.0 1.0");
        }
    }

    private static void boxInPlaceOfAnother() {
        NodeStage x = Scene.chain(1);
        x.make(0, 0);
        x.insert(0, 2, -1);
        x.box(1, 0, 0, 10, 10);
        x.box(2, 0, 0, 10, 10);
        x.zoom(1, 4, 9);
        due.is("with its layer", x.hit(1, 1), 1);
        due.is("with its scale", x.hit(39, 39), 1);
        x.box(1, 2, 3, 20, 20);
        due.is("the new place, scale 1", placesOf(x, 1), "2.0 3.0 1.0");
        due.is("layer 0", x.hit(5, 5), 2);
        due.is("the new size", x.hit(21.5, 22.5), 1);
        due.is("not the old one", x.hit(39, 39), -1);
    }

    private static void zoom() {
        NodeStage x = Scene.chain(2);
        x.box(1, 10, 20, 8, 8);
        x.box(2, 1, 2, 8, 8);
        due.is("zoom(1, 4, 0)", x.zoom(1, 4, 0), true);
        due.is("the greatest scale", placesOf(x, 1) + " " + placesOf(x, 2), "10.0 20.0 4.0 14.0 28.0 4.0");
        due.is("zoom(1, 0.125, 0)", x.zoom(1, 0.125, 0), true);
        due.is("the smallest scale", placesOf(x, 1) + " " + placesOf(x, 2), "10.0 20.0 0.125 10.125 20.25 0.125");
        due.is("zoom(2, 2, 0)", x.zoom(2, 2, 0), true);
        due.is("both scales", placesOf(x, 2), "10.125 20.25 0.25");
    }

    private static void place() {
        NodeStage x = Scene.chain(4);
        x.box(1, 1, 2, 10, 10);
        x.box(4, 10, 20, 10, 10);
        due.is("relative to the nearest with a box", placesOf(x, 4), "11.0 22.0 1.0");
        x.box(3, 100, 200, 10, 10);
        due.is("relative to a nearer one", placesOf(x, 4), "111.0 222.0 1.0");
        x.remove(4);
        due.is("out of all", placesOf(x, 4), "10.0 20.0 1.0");
        x.insert(2, 4, -1);
        due.is("in another one", placesOf(x, 4), "11.0 22.0 1.0");
        x.remove(1);
        due.is("not below the document", placesOf(x, 4), "11.0 22.0 1.0");
    }

    private static void placeThroughHosts() {
        // 1 is a host with the shadow 2 with the slot 3; 4 is 1's child and assigned to 3.
        NodeStage x = Scene.chain(1);
        x.attach(1);
        x.make(1, 0);
        x.make(0, 0);
        x.insert(2, 3, -1);
        x.insert(1, 4, -1);
        x.box(1, 100, 100, 10, 10);
        x.zoom(1, 0.5, 0);
        x.box(3, 10, 20, 10, 10);
        x.box(4, 1, 2, 10, 10);
        due.is("relative to the host", placesOf(x, 3), "105.0 110.0 0.5");
        due.is("relative to the parent, not to the slot", placesOf(x, 4), "100.5 101.0 0.5");
    }

    private static void placeIsRoundedFromOutside() {
        NodeStage x = Scene.chain(3);
        double[] at = {0.1, 0.7, 0.3};
        double[] scales = {0.3, 1.7, 3.3};
        double left = 0;
        double size = 1;
        for (int k = 0; k < 3; k++) {
            x.box(k + 1, at[k], -at[k], 1, 1);
            x.zoom(k + 1, scales[k], 0);
            left = left + at[k] * size;
            size = size * scales[k];
            due.is("left of " + (k + 1), x.place(k + 1, 0), left);
            due.is("top of " + (k + 1), x.place(k + 1, 1), -left);
            due.is("SIZE of " + (k + 1), x.place(k + 1, 2), size);
        }
    }

    private static void hitLayers() {
        // 1 and 2 side by side, 3 in 1, all in one place.
        NodeStage x = new NodeStage();
        for (int k = 1; k <= 3; k++) {
            x.make(0, 0);
            x.insert(k == 3 ? 1 : 0, k, -1);
            x.box(k, 0, 0, 10, 10);
        }
        due.is("the last in order", x.hit(5, 5), 2);
        x.zoom(2, 1, -1);
        due.is("a lower layer", x.hit(5, 5), 3);
        x.zoom(1, 1, 1);
        due.is("a higher layer, not that of what is in it", x.hit(5, 5), 1);
        x.zoom(3, 1, 1);
        due.is("the same layer, later", x.hit(5, 5), 3);
        x.zoom(2, 1, 1);
        due.is("the same layer, last", x.hit(5, 5), 2);
        for (int k = 1; k <= 3; k++) {
            x.zoom(k, 1, Integer.MIN_VALUE);
        }
        due.is("the lowest layers", x.hit(5, 5), 2);
        x.zoom(1, 1, Integer.MAX_VALUE);
        due.is("the highest layer", x.hit(5, 5), 1);
        x.box(3, 50, 50, 1, 1);
        due.is("outside of what it is in", x.hit(50.5, 50.5), 3);
    }

    private static void hitShadowOrder() {
        // 1 is a host with the shadow 2 with 3 in it; 4 is 1's child, 5 stands behind 1.
        NodeStage x = Scene.chain(1);
        x.attach(1);
        x.make(0, 0);
        x.make(0, 0);
        x.make(0, 0);
        x.insert(2, 3, -1);
        x.insert(1, 4, -1);
        x.insert(0, 5, -1);
        for (int k : new int[] {1, 3, 4, 5}) {
            x.box(k, 0, 0, 10, 10);
        }
        due.is("what stands behind the host", x.hit(5, 5), 5);
        x.remove(5);
        due.is("the host's child", x.hit(5, 5), 4);
        x.box(4, 50, 0, 10, 10);
        due.is("what is below the shadow, beside the child", x.hit(5, 5), 3);
        due.is("the child beside it", x.hit(55, 5), 4);
        x.box(4, 0, 0, 10, 10);
        x.remove(4);
        due.is("what is below the shadow", x.hit(5, 5), 3);
        x.insert(3, 4, -1);
        due.is("what is deeper", x.hit(5, 5), 4);
        x.insert(0, 5, 1);
        due.is("what stands before the host", x.hit(5, 5), 4);
        x.remove(3);
        due.is("the host itself", x.hit(5, 5), 1);
        // An empty shadow, and children behind it.
        x.insert(1, 4, -1);
        x.insert(1, 5, 4);
        due.is("the host's last child", x.hit(5, 5), 4);
    }
}
