import java.util.ArrayList;
import java.util.List;
import java.util.NoSuchElementException;

/**
 * The document's words put down a second time, as plainly as may be and without regard to room or
 * rules of language, to compare the class with in long runs of calls.
 */
final class Model {
    private record Entry(int node, int target) {
    }

    private record Command(int command, int n) {
    }

    private static final class Element {
        int kind;
        int name = -1;
        int parent = -1;
        int host = -1;
        int shadow = -1;
        boolean mark;
        final List<Integer> children = new ArrayList<>();
        double[] box;
        int layer;
    }

    private static final class Hearer {
        int node;
        int type;
        int options;
        int script;
        boolean removed;
    }

    private static final class Sent {
        boolean stopped;
        boolean atOnce;
        boolean prevented;
        boolean preventable;
    }

    private final List<Element> nodes = new ArrayList<>();
    private final List<Hearer> hearers = new ArrayList<>();
    private final List<List<Command>> scripts = new ArrayList<>();
    private final List<int[]> calls = new ArrayList<>();
    private int errors;
    private int depth;
    private int budget;
    private int over = -1;
    private int pressed = -1;
    private boolean isDown;

    Model() {
        nodes.add(new Element());
        nodes.get(0).kind = 3;
        for (int k = 0; k < 8; k++) {
            scripts.add(new ArrayList<>());
        }
    }

    private boolean isNode(int n) {
        return n >= 0 && n < nodes.size();
    }

    private boolean isElement(int n) {
        return isNode(n) && nodes.get(n).kind <= 2;
    }

    int make(int kind, int name) {
        if (kind < 0 || kind > 2 || name < 0 || name > 3 || nodes.size() == 24) {
            return -1;
        }
        Element e = new Element();
        e.kind = kind;
        e.name = name;
        nodes.add(e);
        return nodes.size() - 1;
    }

    int attach(int host) {
        if (!isNode(host) || nodes.get(host).kind != 0 || nodes.get(host).shadow != -1 || nodes.size() == 24) {
            return -1;
        }
        Element e = new Element();
        e.kind = 4;
        e.host = host;
        nodes.get(host).shadow = nodes.size();
        nodes.add(e);
        return nodes.size() - 1;
    }

    /** The node itself and all that is above or hosting it. */
    private List<Integer> upwards(int node) {
        List<Integer> all = new ArrayList<>();
        int n = node;
        while (n != -1) {
            all.add(n);
            n = nodes.get(n).kind == 4 ? nodes.get(n).host : nodes.get(n).parent;
        }
        return all;
    }

    private int rootOf(int node) {
        return nodes.get(node).parent == -1 ? node : rootOf(nodes.get(node).parent);
    }

    private List<Integer> treeOrder(int node) {
        List<Integer> all = new ArrayList<>();
        all.add(node);
        for (int c : nodes.get(node).children) {
            all.addAll(treeOrder(c));
        }
        return all;
    }

    private List<Integer> shadowOrder(int node) {
        List<Integer> all = new ArrayList<>();
        all.add(node);
        if (nodes.get(node).shadow != -1) {
            all.addAll(shadowOrder(nodes.get(node).shadow));
        }
        for (int c : nodes.get(node).children) {
            all.addAll(shadowOrder(c));
        }
        return all;
    }

    private int assigned(int node) {
        Element e = nodes.get(node);
        if (e.parent == -1 || nodes.get(e.parent).shadow == -1) {
            return -1;
        }
        for (int n : treeOrder(nodes.get(e.parent).shadow)) {
            if (nodes.get(n).kind == 1 && nodes.get(n).name == e.name) {
                return n;
            }
        }
        return -1;
    }

    private boolean allowed(int parent, int element) {
        return isElement(element) && !upwards(parent).contains(element);
    }

    void insert(int parent, int element, int before) {
        if (!isNode(parent) || !isNode(element) || (before != -1 && !isNode(before))) {
            throw new IndexOutOfBoundsException();
        }
        if (!allowed(parent, element) || before == element) {
            throw new IllegalArgumentException();
        }
        List<Integer> children = nodes.get(parent).children;
        if (before != -1 && !children.contains(before)) {
            throw new NoSuchElementException();
        }
        remove(element);
        children.add(before == -1 ? children.size() : children.indexOf(before), element);
        nodes.get(element).parent = parent;
    }

    boolean remove(int node) {
        if (!isNode(node) || nodes.get(node).parent == -1) {
            return false;
        }
        nodes.get(nodes.get(node).parent).children.remove(Integer.valueOf(node));
        nodes.get(node).parent = -1;
        return true;
    }

    boolean command(int script, int command, int n) {
        if (script < 0 || script > 7 || command < 0 || command > 8 || scripts.get(script).size() == 5) {
            return false;
        }
        return scripts.get(script).add(new Command(command, n));
    }

    boolean clear(int script) {
        if (script < 0 || script > 7) {
            return false;
        }
        scripts.get(script).clear();
        return true;
    }

    int listen(int node, int type, int options, int script) {
        if (!isNode(node) || type < 0 || type > 7 || options < 0 || options > 7 || script < 0 || script > 7
                || hearers.size() == 40) {
            return -1;
        }
        for (Hearer h : hearers) {
            if (!h.removed && h.node == node && h.type == type && h.options % 2 == options % 2 && h.script == script) {
                return -1;
            }
        }
        Hearer h = new Hearer();
        h.node = node;
        h.type = type;
        h.options = options;
        h.script = script;
        hearers.add(h);
        return hearers.size() - 1;
    }

    boolean unlisten(int listener) {
        if (listener < 0 || listener >= hearers.size() || hearers.get(listener).removed) {
            return false;
        }
        hearers.get(listener).removed = true;
        return true;
    }

    boolean dispatch(int node, int type, int flags) {
        if (!isNode(node)) {
            throw new NoSuchElementException();
        }
        if (type < 0 || type > 7 || flags < 0 || flags > 7) {
            throw new IllegalArgumentException();
        }
        budget = 120;
        return !send(node, type, flags);
    }

    private int next(int node, int target, boolean composed) {
        Element e = nodes.get(node);
        if (e.kind == 3) {
            return -1;
        }
        if (e.kind == 4) {
            return !composed && rootOf(target) == node ? -1 : e.host;
        }
        return assigned(node) != -1 ? assigned(node) : e.parent;
    }

    private List<Entry> pathOf(int target, boolean composed) {
        List<Entry> path = new ArrayList<>();
        path.add(new Entry(target, target));
        int last = target;
        for (int n = next(target, target, composed); n != -1; n = next(n, target, composed)) {
            if (upwards(n).contains(rootOf(last))) {
                path.add(new Entry(n, -1));
            } else {
                path.add(new Entry(n, n));
                last = n;
            }
        }
        return path;
    }

    /** Whether it was prevented. */
    private boolean send(int target, int type, int flags) {
        if (depth == 4) {
            return false;
        }
        depth++;
        boolean bubbles = (flags & 1) != 0;
        Sent sent = new Sent();
        sent.preventable = (flags & 2) != 0;
        List<Entry> path = pathOf(target, (flags & 4) != 0);
        int turned = -1;
        if (type == 0) {
            for (Entry e : path) {
                if (turned == -1 && nodes.get(e.node).kind == 2 && (bubbles || e.node == target)) {
                    turned = e.node;
                }
            }
        }
        if (turned != -1) {
            nodes.get(turned).mark ^= true;
        }
        for (int k = path.size() - 1; k >= 0; k--) {
            turn(path, k, true, type, sent);
        }
        for (int k = 0; k < path.size(); k++) {
            if (bubbles || path.get(k).target != -1) {
                turn(path, k, false, type, sent);
            }
        }
        if (turned != -1 && sent.prevented) {
            nodes.get(turned).mark ^= true;
        }
        depth--;
        return sent.prevented;
    }

    private void turn(List<Entry> path, int k, boolean capture, int type, Sent sent) {
        if (sent.stopped) {
            return;
        }
        int current = path.get(k).node;
        int phase = path.get(k).target != -1 ? 2 : capture ? 1 : 3;
        int nearest = k;
        while (path.get(nearest).target == -1) {
            nearest--;
        }
        for (Hearer h : new ArrayList<>(hearers)) {
            boolean fits = h.node == current && h.type == type && (h.options % 2 == 1) == capture && !h.removed;
            if (!fits || sent.atOnce || budget == 0) {
                continue;
            }
            budget--;
            if ((h.options & 2) != 0) {
                h.removed = true;
            }
            calls.add(0, new int[] {hearers.indexOf(h), current, path.get(nearest).target, phase, type});
            for (Command c : scripts.get(h.script)) {
                if (c.command == 6) {
                    errors++;
                    break;
                }
                carryOut(c, current, h, sent);
            }
        }
    }

    private void carryOut(Command c, int current, Hearer h, Sent sent) {
        if (c.command == 0 || c.command == 1) {
            sent.stopped = true;
            sent.atOnce |= c.command == 1;
        } else if (c.command == 2 && sent.preventable && (h.options & 4) == 0) {
            sent.prevented = true;
        } else if (c.command == 3) {
            unlisten(c.n);
        } else if (c.command == 4 && c.n >= 0 && c.n < hearers.size()) {
            Hearer like = hearers.get(c.n);
            listen(like.node, like.type, like.options, like.script);
        } else if (c.command == 5 && c.n >= 0 && c.n <= 7) {
            send(current, c.n, 3);
        } else if (c.command == 7) {
            remove(c.n);
        } else if (c.command == 8 && allowed(current, c.n)) {
            insert(current, c.n, -1);
        }
    }

    private static boolean isFar(double d) {
        return !(d >= -1000 && d <= 1000);
    }

    void box(int node, double x, double y, double width, double height) {
        if (!isElement(node) || !(width > 0) || !(height > 0) || isFar(x) || isFar(y) || isFar(width) || isFar(height)) {
            throw new IllegalArgumentException();
        }
        nodes.get(node).box = new double[] {x, y, width, height, 1};
        nodes.get(node).layer = 0;
    }

    boolean zoom(int node, double scale, int layer) {
        if (!isNode(node) || nodes.get(node).box == null || !(scale >= 0.125 && scale <= 4)) {
            return false;
        }
        nodes.get(node).box[4] = scale;
        nodes.get(node).layer = layer;
        return true;
    }

    /** Left, top and SIZE. */
    private double[] placeOf(int node) {
        double[] outer = {0, 0, 1};
        for (int n : upwards(node)) {
            if (n != node && nodes.get(n).box != null) {
                outer = placeOf(n);
                break;
            }
        }
        double[] box = nodes.get(node).box;
        return new double[] {outer[0] + box[0] * outer[2], outer[1] + box[1] * outer[2], outer[2] * box[4]};
    }

    double place(int node, int what) {
        if (!isNode(node) || nodes.get(node).box == null) {
            throw new NoSuchElementException();
        }
        if (what < 0 || what > 2) {
            throw new IllegalArgumentException();
        }
        return placeOf(node)[what];
    }

    int hit(double x, double y) {
        int best = -1;
        for (int n : shadowOrder(0)) {
            double[] box = nodes.get(n).box;
            if (box == null) {
                continue;
            }
            double[] p = placeOf(n);
            boolean holds = x >= p[0] && x < p[0] + box[2] * p[2] && y >= p[1] && y < p[1] + box[3] * p[2];
            if (holds && (best == -1 || nodes.get(n).layer >= nodes.get(best).layer)) {
                best = n;
            }
        }
        return best;
    }

    int pointer(double x, double y, boolean down) {
        budget = 120;
        int count = 0;
        int h = hit(x, y);
        if (h != over) {
            if (over != -1) {
                send(over, 2, 7);
                count++;
            }
            over = h;
            if (h != -1) {
                send(h, 3, 7);
                count++;
            }
        }
        if (h != -1) {
            send(h, 4, 7);
            count++;
        }
        if (down && !isDown) {
            pressed = h;
            if (h != -1) {
                send(h, 5, 7);
                count++;
            }
        }
        if (!down && isDown) {
            if (h != -1) {
                send(h, 6, 7);
                count++;
                if (h == pressed) {
                    send(h, 0, 7);
                    count++;
                }
            }
            pressed = -1;
        }
        isDown = down;
        return count;
    }

    int node(int node, int what) {
        if (!isNode(node) || what < 0 || what > 7) {
            return -1;
        }
        Element e = nodes.get(node);
        return new int[] {e.kind, e.parent, assigned(node), e.shadow, e.host, e.children.size(), e.mark ? 1 : 0,
            rootOf(node)}[what];
    }

    int child(int node, int k) {
        return !isNode(node) || k < 0 || k >= nodes.get(node).children.size() ? -1 : nodes.get(node).children.get(k);
    }

    int call(int k, int what) {
        return k < 0 || k > 31 || k >= calls.size() || what < 0 || what > 4 ? -1 : calls.get(k)[what];
    }

    int look(int what) {
        return what < 0 || what > 5 ? -1
                : new int[] {nodes.size(), hearers.size(), calls.size(), errors, over, pressed}[what];
    }
}
