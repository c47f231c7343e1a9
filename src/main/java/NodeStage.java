import java.util.NoSuchElementException;

/**
 * A tree of nodes with shadow trees and slots, in which events go along paths to listeners, and
 * boxes that tell where a pointer is. What each method promises stands in the document, DOC.md.
 */
public final class NodeStage {
    private static final int MOST_NODES = 24;
    private static final int MOST_LISTENERS = 40;
    private static final int MOST_COMMANDS = 5;
    private static final int MOST_OPEN_EVENTS = 4;
    private static final int MOST_CALLED = 120;
    private static final int SCRIPTS = 8;
    private static final int COMMANDS = 9;
    private static final int TYPES = 8;
    private static final int NAMES = 4;
    private static final int OPTION_SETS = 8;
    private static final int FLAG_SETS = 8;
    private static final int CALLS_KEPT = 32;
    private static final int FACTS_OF_A_CALL = 5;
    private static final int FARTHEST = 1000;
    private static final int NOTHING = -1;

    private static final int PLAIN = 0;
    private static final int SLOT = 1;
    private static final int CHECK = 2;
    private static final int DOCUMENT = 3;
    private static final int SHADOW = 4;

    private static final int CAPTURE = 1;
    private static final int ONCE = 2;
    private static final int PASSIVE = 4;

    private static final int BUBBLES = 1;
    private static final int PREVENTABLE = 2;
    private static final int COMPOSED = 4;
    private static final int SCRIPT_FLAGS = BUBBLES | PREVENTABLE;
    private static final int POINTER_FLAGS = BUBBLES | PREVENTABLE | COMPOSED;

    private static final int STOP = 0;
    private static final int STOP_AT_ONCE = 1;
    private static final int PREVENT = 2;
    private static final int REMOVE = 3;
    private static final int AGAIN = 4;
    private static final int SEND = 5;
    private static final int THROW = 6;
    private static final int TAKE_OUT = 7;
    private static final int MOVE = 8;

    private static final int TYPE_CLICKED = 0;
    private static final int TYPE_LEFT = 2;
    private static final int TYPE_ENTERED = 3;
    private static final int TYPE_PUT = 4;
    private static final int TYPE_WENT_DOWN = 5;
    private static final int TYPE_WENT_UP = 6;

    private final Node[] nodes = new Node[MOST_NODES];
    private int nodeCount;
    private final Listener[] listeners = new Listener[MOST_LISTENERS];
    private int listenerCount;
    private final Script[] scripts = new Script[SCRIPTS];
    // One for each depth of dispatching, used again and again: events are many, room is not.
    private final Event[] events = new Event[MOST_OPEN_EVENTS];
    private int openEvents;
    private int calledInThisCall;
    private final CallLog log = new CallLog();
    private int errors;
    private Node over;
    private Node pressed;
    private boolean isDown;

    public NodeStage() {
        nodes[0] = new Node(0, DOCUMENT, NOTHING, null);
        nodeCount = 1;
        for (int k = 0; k < scripts.length; k++) {
            scripts[k] = new Script();
        }
        for (int k = 0; k < events.length; k++) {
            events[k] = new Event();
        }
    }

    public int make(int kind, int name) {
        if (kind < PLAIN || kind > CHECK || name < 0 || name >= NAMES) {
            return NOTHING;
        }
        return numberOf(addNode(kind, name, null));
    }

    public int attach(int host) {
        Node owner = nodeAt(host);
        if (owner == null || owner.kind != PLAIN || owner.shadow != null) {
            return NOTHING;
        }
        owner.shadow = addNode(SHADOW, NOTHING, owner);
        return numberOf(owner.shadow);
    }

    public void insert(int parent, int element, int before)
            throws IndexOutOfBoundsException, IllegalArgumentException, NoSuchElementException {
        Node holder = nodeAt(parent);
        Node moved = nodeAt(element);
        Node follower = nodeAt(before);
        if (holder == null || moved == null || (follower == null && before != NOTHING)) {
            throw new IndexOutOfBoundsException("there is no such node");
        }
        if (!moved.isElement() || moved.isAtOrOver(holder) || follower == moved) {
            throw new IllegalArgumentException("the element may not stand there");
        }
        if (follower != null && follower.parent != holder) {
            throw new NoSuchElementException("before is no child of the parent");
        }
        moved.settle(holder, follower);
    }

    public boolean remove(int node) {
        return takeOut(nodeAt(node));
    }

    public boolean command(int script, int command, int n) {
        Script written = scriptAt(script);
        return written != null && command >= 0 && command < COMMANDS && written.append(command, n);
    }

    public boolean clear(int script) {
        Script emptied = scriptAt(script);
        if (emptied == null) {
            return false;
        }
        emptied.length = 0;
        return true;
    }

    public int listen(int node, int type, int options, int script) {
        Node place = nodeAt(node);
        Script done = scriptAt(script);
        if (place == null || done == null || !isType(type) || options < 0 || options >= OPTION_SETS) {
            return NOTHING;
        }
        return addListener(place, type, options, done);
    }

    public boolean unlisten(int listener) {
        return removeListener(listener);
    }

    public boolean dispatch(int node, int type, int flags)
            throws NoSuchElementException, IllegalArgumentException {
        Node target = nodeAt(node);
        if (target == null) {
            throw new NoSuchElementException("there is no such node");
        }
        if (!isType(type) || flags < 0 || flags >= FLAG_SETS) {
            throw new IllegalArgumentException("there is no such type, or there are no such flags");
        }
        calledInThisCall = 0;
        Event event = send(target, type, flags);
        return event == null || !event.isPrevented;
    }

    public void box(int node, double x, double y, double width, double height)
            throws IllegalArgumentException {
        Node element = nodeAt(node);
        if (element == null || !element.isElement()) {
            throw new IllegalArgumentException("there is no such element");
        }
        boolean isWithin = isNear(x) && isNear(y) && isNear(width) && isNear(height);
        if (!isWithin || width <= 0 || height <= 0) {
            throw new IllegalArgumentException("a box is not so wide, so high or so far");
        }
        if (element.box == null) {
            element.box = new Box();
        }
        element.box.shape(x, y, width, height);
    }

    public boolean zoom(int node, double scale, int layer) {
        Node element = nodeAt(node);
        // A scale that is no number fails both comparisons.
        boolean isScale = scale >= 0.125 && scale <= 4;
        if (element == null || element.box == null || !isScale) {
            return false;
        }
        element.box.scale = scale;
        element.box.layer = layer;
        return true;
    }

    public double place(int node, int what) throws NoSuchElementException, IllegalArgumentException {
        Node element = nodeAt(node);
        Box box = element == null ? null : element.measuredBox();
        if (box == null) {
            throw new NoSuchElementException("there is no box");
        }
        switch (what) {
            case 0:
                return box.left;
            case 1:
                return box.top;
            case 2:
                return box.size;
            default:
                throw new IllegalArgumentException("what is not 0 .. 2");
        }
    }

    public int hit(double x, double y) {
        return numberOf(topmostAt(x, y));
    }

    public int pointer(double x, double y, boolean down) {
        calledInThisCall = 0;
        Node found = topmostAt(x, y);
        Node left = found == over ? null : over;
        Node entered = found == over ? null : found;
        Node wentDown = down && !isDown ? found : null;
        Node wentUp = isDown && !down ? found : null;
        Node clicked = found == pressed ? wentUp : null;
        // No script can see these, so they need not wait for their events.
        pressed = down == isDown ? pressed : wentDown;
        over = found;
        isDown = down;
        int sent = countOf(send(left, TYPE_LEFT, POINTER_FLAGS));
        sent += countOf(send(entered, TYPE_ENTERED, POINTER_FLAGS));
        sent += countOf(send(found, TYPE_PUT, POINTER_FLAGS));
        sent += countOf(send(wentDown, TYPE_WENT_DOWN, POINTER_FLAGS));
        sent += countOf(send(wentUp, TYPE_WENT_UP, POINTER_FLAGS));
        sent += countOf(send(clicked, TYPE_CLICKED, POINTER_FLAGS));
        return sent;
    }

    public int node(int node, int what) {
        Node asked = nodeAt(node);
        if (asked == null) {
            return NOTHING;
        }
        switch (what) {
            case 0:
                return asked.kind;
            case 1:
                return numberOf(asked.parent);
            case 2:
                return numberOf(asked.assignedSlot());
            case 3:
                return numberOf(asked.shadow);
            case 4:
                return numberOf(asked.host);
            case 5:
                return asked.childCount();
            case 6:
                return asked.isMarked ? 1 : 0;
            case 7:
                return numberOf(asked.root());
            default:
                return NOTHING;
        }
    }

    public int child(int node, int k) {
        Node parent = nodeAt(node);
        return parent == null ? NOTHING : numberOf(parent.childAt(k));
    }

    public int call(int k, int what) {
        return log.read(k, what);
    }

    public int look(int what) {
        switch (what) {
            case 0:
                return nodeCount;
            case 1:
                return listenerCount;
            case 2:
                return log.count;
            case 3:
                return errors;
            case 4:
                return numberOf(over);
            case 5:
                return numberOf(pressed);
            default:
                return NOTHING;
        }
    }

    private static int numberOf(Node node) {
        return node == null ? NOTHING : node.number;
    }

    private static boolean isType(int type) {
        return type >= 0 && type < TYPES;
    }

    // What is no number fails both comparisons.
    private static boolean isNear(double measure) {
        return measure >= -FARTHEST && measure <= FARTHEST;
    }

    private Node nodeAt(int number) {
        return number >= 0 && number < nodeCount && number < nodes.length ? nodes[number] : null;
    }

    private Script scriptAt(int number) {
        return number >= 0 && number < scripts.length ? scripts[number] : null;
    }

    private Listener listenerAt(int number) {
        return number >= 0 && number < listenerCount && number < listeners.length ? listeners[number] : null;
    }

    /** The new node, or null if there are too many. */
    private Node addNode(int kind, int name, Node host) {
        if (nodeCount >= nodes.length) {
            return null;
        }
        Node made = new Node(nodeCount, kind, name, host);
        nodes[nodeCount] = made;
        nodeCount++;
        return made;
    }

    private static boolean takeOut(Node node) {
        if (node == null || node.parent == null) {
            return false;
        }
        node.leave();
        return true;
    }

    private static void move(Node element, Node parent) {
        if (element != null && element.isElement() && !element.isAtOrOver(parent)) {
            element.settle(parent, null);
        }
    }

    /** The new listener's number, or NOTHING if it is refused. */
    private int addListener(Node node, int type, int options, Script script) {
        if (listenerCount >= listeners.length || hasListenerLike(node, type, options, script)) {
            return NOTHING;
        }
        listeners[listenerCount] = new Listener(node, type, options, script);
        listenerCount++;
        return listenerCount - 1;
    }

    private boolean hasListenerLike(Node node, int type, int options, Script script) {
        boolean captures = (options & CAPTURE) != 0;
        for (int k = 0; k < listenerCount; k++) {
            Listener other = listenerAt(k);
            if (other != null && other.hears(node, type, captures) && other.script == script) {
                return true;
            }
        }
        return false;
    }

    private boolean removeListener(int number) {
        Listener removed = listenerAt(number);
        if (removed == null || removed.isRemoved) {
            return false;
        }
        removed.isRemoved = true;
        return true;
    }

    private static int countOf(Event event) {
        return event == null ? 0 : 1;
    }

    /** The event, its way behind it; null if there is no target or it is too deep to happen. */
    private Event send(Node target, int type, int flags) {
        Event event = openEvents >= 0 && openEvents < events.length ? events[openEvents] : null;
        if (event == null || target == null) {
            return null;
        }
        openEvents++;
        event.begin(target, type, flags);
        Node turned = event.checkToTurn();
        if (turned != null) {
            turned.isMarked = !turned.isMarked;
        }
        for (int k = event.length - 1; k >= 0 && !event.isStopped; k--) {
            takeTurn(event, k, true);
        }
        for (int k = 0; k < event.length && !event.isStopped; k++) {
            takeTurn(event, k, false);
        }
        if (turned != null && event.isPrevented) {
            turned.isMarked = !turned.isMarked;
        }
        openEvents--;
        return event;
    }

    private void takeTurn(Event event, int entry, boolean isCapturing) {
        Node current = event.nodeOf(entry);
        Node target = event.targetOf(entry);
        if (current == null || target == null) {
            return;
        }
        boolean isAtTarget = current == target;
        if (!isCapturing && !isAtTarget && !event.bubbles) {
            return;
        }
        int phase = isAtTarget ? 2 : isCapturing ? 1 : 3;
        // Those that scripts add during the turn are not called in it.
        int there = listenerCount;
        for (int k = 0; k < there && !event.isStoppedAtOnce && calledInThisCall < MOST_CALLED; k++) {
            Listener listener = listenerAt(k);
            if (listener != null && listener.hears(current, event.type, isCapturing)) {
                calledInThisCall++;
                listener.isRemoved = listener.has(ONCE);
                log.write(k, current.number, target.number, phase, event.type);
                runScript(event, listener);
            }
        }
    }

    private void runScript(Event event, Listener listener) {
        Script script = listener.script;
        for (int k = 0; k < script.length; k++) {
            int command = script.commandAt(k);
            if (command == THROW) {
                errors++;
                return;
            }
            carryOut(command, script.numberAt(k), event, listener);
        }
    }

    private void carryOut(int command, int n, Event event, Listener listener) {
        switch (command) {
            case STOP:
                event.isStopped = true;
                break;
            case STOP_AT_ONCE:
                event.isStopped = true;
                event.isStoppedAtOnce = true;
                break;
            case PREVENT:
                event.isPrevented = event.isPrevented || (event.isPreventable && !listener.has(PASSIVE));
                break;
            case REMOVE:
                removeListener(n);
                break;
            case AGAIN:
                Listener model = listenerAt(n);
                if (model != null) {
                    addListener(model.node, model.type, model.options, model.script);
                }
                break;
            case SEND:
                if (isType(n)) {
                    send(listener.node, n, SCRIPT_FLAGS);
                }
                break;
            case TAKE_OUT:
                takeOut(nodeAt(n));
                break;
            case MOVE:
                move(nodeAt(n), listener.node);
                break;
            default:
                break;
        }
    }

    private Node topmostAt(double x, double y) {
        Node found = null;
        int greatest = 0;
        Node node = nodeAt(0);
        for (int steps = 0; node != null && steps < MOST_NODES; steps++) {
            Box box = node.measuredBox();
            if (box != null && box.holds(x, y) && (found == null || box.layer >= greatest)) {
                found = node;
                greatest = box.layer;
            }
            node = node.nextInShadowOrder();
        }
        return found;
    }

    private static final class Node {
        final int number;
        final int kind;
        final int name;
        final Node host;
        Node parent;
        Node first;
        Node last;
        Node previous;
        Node next;
        Node shadow;
        Box box;
        boolean isMarked;

        Node(int number, int kind, int name, Node host) {
            this.number = number;
            this.kind = kind;
            this.name = name;
            this.host = host;
        }

        boolean isElement() {
            return kind <= CHECK;
        }

        Node parentOrHost() {
            return parent != null ? parent : host;
        }

        boolean isAtOrOver(Node other) {
            for (Node n = other; n != null; n = n.parentOrHost()) {
                if (n == this) {
                    return true;
                }
            }
            return false;
        }

        Node root() {
            Node top = this;
            for (Node n = parent; n != null; n = n.parent) {
                top = n;
            }
            return top;
        }

        int childCount() {
            int count = 0;
            for (Node n = first; n != null; n = n.next) {
                count++;
            }
            return count;
        }

        Node childAt(int k) {
            int place = 0;
            for (Node n = first; n != null; n = n.next) {
                if (place == k) {
                    return n;
                }
                place++;
            }
            return null;
        }

        void leave() {
            if (previous != null) {
                previous.next = next;
            } else if (parent != null) {
                parent.first = next;
            }
            if (next != null) {
                next.previous = previous;
            } else if (parent != null) {
                parent.last = previous;
            }
            parent = null;
            previous = null;
            next = null;
        }

        /** Before the follower, or at the end if it is null. */
        void settle(Node holder, Node follower) {
            // First, because this may itself stand just before the follower.
            leave();
            parent = holder;
            next = follower;
            previous = follower != null ? follower.previous : holder.last;
            if (previous != null) {
                previous.next = this;
            } else {
                holder.first = this;
            }
            if (next != null) {
                next.previous = this;
            } else {
                holder.last = this;
            }
        }

        /** The next one in tree order below the same root, or null. */
        Node nextInTreeOrder() {
            if (first != null) {
                return first;
            }
            for (Node n = this; n != null; n = n.parent) {
                if (n.next != null) {
                    return n.next;
                }
            }
            return null;
        }

        /** The next one in shadow order, in which a shadow goes as its host's foremost child; or null. */
        Node nextInShadowOrder() {
            Node inside = shadow != null ? shadow : first;
            if (inside != null) {
                return inside;
            }
            for (Node n = this; n != null; n = n.parentOrHost()) {
                Node after = n.host != null ? n.host.first : n.next;
                if (after != null) {
                    return after;
                }
            }
            return null;
        }

        Node assignedSlot() {
            Node slot = parent != null ? parent.shadow : null;
            for (int steps = 0; slot != null && steps < MOST_NODES; steps++) {
                if (slot.kind == SLOT && slot.name == name) {
                    return slot;
                }
                slot = slot.nextInTreeOrder();
            }
            return null;
        }

        /**
         * The box with its left, top and size reckoned anew, or null. It goes from the outermost box
         * inwards, because the other way round the doubles would be rounded otherwise.
         */
        Box measuredBox() {
            if (box == null) {
                return null;
            }
            Box outermost = null;
            for (Node n = this; n != null; n = n.parentOrHost()) {
                if (n.box != null) {
                    n.box.inner = outermost;
                    outermost = n.box;
                }
            }
            double left = 0;
            double top = 0;
            double size = 1;
            for (Box b = outermost; b != null; b = b.inner) {
                left = left + b.x * size;
                top = top + b.y * size;
                size = size * b.scale;
                b.left = left;
                b.top = top;
                b.size = size;
            }
            return box;
        }
    }

    private static final class Box {
        double x;
        double y;
        double width;
        double height;
        double scale;
        int layer;
        // What follows is good only just after a measuring.
        double left;
        double top;
        double size;
        Box inner;

        void shape(double x, double y, double width, double height) {
            this.x = x;
            this.y = y;
            this.width = width;
            this.height = height;
            scale = 1;
            layer = 0;
        }

        boolean holds(double pointX, double pointY) {
            return pointX >= left && pointX < left + width * size
                    && pointY >= top && pointY < top + height * size;
        }
    }

    private static final class Script {
        final int[] commands = new int[MOST_COMMANDS];
        final int[] numbers = new int[MOST_COMMANDS];
        int length;

        boolean append(int command, int number) {
            if (length < 0 || length >= commands.length || length >= numbers.length) {
                return false;
            }
            commands[length] = command;
            numbers[length] = number;
            length++;
            return true;
        }

        int commandAt(int k) {
            return k >= 0 && k < commands.length ? commands[k] : NOTHING;
        }

        int numberAt(int k) {
            return k >= 0 && k < numbers.length ? numbers[k] : NOTHING;
        }
    }

    private static final class Listener {
        final Node node;
        final int type;
        final int options;
        final Script script;
        boolean isRemoved;

        Listener(Node node, int type, int options, Script script) {
            this.node = node;
            this.type = type;
            this.options = options;
            this.script = script;
        }

        boolean has(int option) {
            return (options & option) != 0;
        }

        boolean hears(Node place, int eventType, boolean isCapturing) {
            boolean captures = (options & CAPTURE) != 0;
            return !isRemoved && node == place && type == eventType && captures == isCapturing;
        }
    }

    /** An event with its path, in which an entry without a target holds that of the nearest one before it. */
    private static final class Event {
        final Node[] nodes = new Node[MOST_NODES];
        final Node[] targets = new Node[MOST_NODES];
        int length;
        int type;
        boolean bubbles;
        boolean isPreventable;
        boolean isStopped;
        boolean isStoppedAtOnce;
        boolean isPrevented;

        void begin(Node first, int eventType, int flags) {
            type = eventType;
            bubbles = (flags & BUBBLES) != 0;
            isPreventable = (flags & PREVENTABLE) != 0;
            isStopped = false;
            isStoppedAtOnce = false;
            isPrevented = false;
            layPath(first, (flags & COMPOSED) != 0 ? null : first.root());
        }

        /** The last root, if there is one, is the shadow that the path does not leave. */
        void layPath(Node first, Node lastRoot) {
            Node target = first;
            Node entry = first;
            length = 0;
            for (int k = 0; k < MOST_NODES && entry != null; k++) {
                target = target.root().isAtOrOver(entry) ? target : entry;
                nodes[k] = entry;
                targets[k] = target;
                length = k + 1;
                entry = entry == lastRoot ? null : nextOnPath(entry);
            }
        }

        static Node nextOnPath(Node node) {
            Node slot = node.assignedSlot();
            return slot != null ? slot : node.parentOrHost();
        }

        Node nodeOf(int entry) {
            return entry >= 0 && entry < nodes.length ? nodes[entry] : null;
        }

        Node targetOf(int entry) {
            return entry >= 0 && entry < targets.length ? targets[entry] : null;
        }

        /** The check whose mark the event turns over, or null. */
        Node checkToTurn() {
            if (type != TYPE_CLICKED) {
                return null;
            }
            int looked = bubbles ? length : 1;
            for (int k = 0; k < looked; k++) {
                Node node = nodeOf(k);
                if (node != null && node.kind == CHECK) {
                    return node;
                }
            }
            return null;
        }
    }

    /** The latest calls, five facts each, in a row that is written round and round. */
    private static final class CallLog {
        final int[] facts = new int[CALLS_KEPT * FACTS_OF_A_CALL];
        int count;

        void write(int listener, int node, int target, int phase, int type) {
            int start = startOf(count);
            facts[start] = listener;
            facts[start + 1] = node;
            facts[start + 2] = target;
            facts[start + 3] = phase;
            facts[start + 4] = type;
            count++;
        }

        int read(int k, int what) {
            if (k < 0 || k >= CALLS_KEPT || k >= count || what < 0 || what >= FACTS_OF_A_CALL) {
                return NOTHING;
            }
            return facts[startOf(count - 1 - k) + what];
        }

        static int startOf(int call) {
            return Math.floorMod(call, CALLS_KEPT) * FACTS_OF_A_CALL;
        }
    }
}
