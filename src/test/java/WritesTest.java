/** Promises 1 to 8: a new object, node, edge, set, dropEdge, dropNode, key, shape. */
public final class WritesTest {
    public static void main(String[] args) {
        newObject();
        nodes();
        nodesAtMost();
        edges();
        edgesAtMost();
        values();
        dropsOfEdges();
        dropsOfNodes();
        keys();
        keysOfDropped();
        shapes();
        shapesKept();
        Check.end();
    }

    private static void newObject() {
        WeftStore x = new WeftStore();
        Check.eq("time()", x.time(), 0);
        Check.eq("sizeAt(0)", x.sizeAt(0), 0);
        Check.eq("cut()", x.cut(), 0);
        Check.eq("inferred()", x.inferred(), 0);
        for (int m = 0; m < 3; m++) {
            Check.eq("copies", x.copies(m), 0);
            Check.is("toggle", x.toggle(m), false);
        }
        Check.eq("commit", x.commit(x.begin(), true), 0);
        Check.noNode("machine(0)", () -> x.machine(0));
    }

    private static void nodes() {
        WeftStore x = new WeftStore();
        Check.eq("node(0, MIN)", x.node(0, Integer.MIN_VALUE), 0);
        Check.eq("node(3, MAX)", x.node(3, Integer.MAX_VALUE), 1);
        Check.eq("valueAt(0, 2)", x.valueAt(0, 2), Integer.MIN_VALUE);
        Check.eq("valueAt(1, 2)", x.valueAt(1, 2), Integer.MAX_VALUE);
        Check.eq("machine(0)", x.machine(0), 0);
        Check.eq("machine(1)", x.machine(1), 1);
        Check.noNode("node(-1, 0)", () -> x.node(-1, 0));
        Check.noNode("node(4, 0)", () -> x.node(4, 0));
        Check.noNode("node(MIN, 0)", () -> x.node(Integer.MIN_VALUE, 0));
        Check.eq("time()", x.time(), 2);
        x.toggle(2);
        Check.eq("node(1, 0)", x.node(1, 0), 2);
        Check.eq("the lowest of those that are up", x.machine(2), 0);
        x.toggle(2);
        x.dropNode(1);
        Check.eq("node(1, 0)", x.node(1, 0), 3);
        Check.eq("what went does not count", x.machine(3), 1);
        x.toggle(0);
        x.toggle(1);
        x.toggle(2);
        Check.notNow("node, none is up", () -> x.node(0, 0));
        Check.noNode("node(4), none is up", () -> x.node(4, 0));
        Check.eq("time()", x.time(), 5);
    }

    private static void nodesAtMost() {
        WeftStore x = new WeftStore();
        for (int i = 0; i < 24; i++) {
            Check.eq("node", x.node(i % 4, i), i);
            Check.eq("machine", x.machine(i), i % 3);
        }
        Check.notNow("node, there were 24", () -> x.node(0, 0));
        x.dropNode(23);
        Check.notNow("node, there were 24, one went", () -> x.node(0, 0));
        Check.noNode("node(4, 0)", () -> x.node(4, 0));
        Check.eq("time()", x.time(), 25);
        Check.eq("sizeAt(24)", x.sizeAt(24), 2400);
        Check.eq("sizeAt(25)", x.sizeAt(25), 2300);
    }

    private static void edges() {
        WeftStore x = new WeftStore();
        x.node(0, 0);
        x.node(1, 0);
        Check.eq("edge(0, 0, 1)", x.edge(0, 0, 1), 0);
        Check.eq("edge(0, 0, 1) again", x.edge(0, 0, 1), 1);
        Check.eq("edge(1, 3, 1)", x.edge(1, 3, 1), 2);
        Check.eq("time()", x.time(), 5);
        Check.eq("sizeAt(5)", x.sizeAt(5), 203);
        Check.noNode("edge(2, 0, 0)", () -> x.edge(2, 0, 0));
        Check.noNode("edge(-1, 0, 0)", () -> x.edge(-1, 0, 0));
        Check.noNode("edge(0, 0, 2)", () -> x.edge(0, 0, 2));
        Check.noNode("edge(0, 0, -1)", () -> x.edge(0, 0, -1));
        Check.noNode("edge(0, 4, 1)", () -> x.edge(0, 4, 1));
        Check.noNode("edge(0, -1, 1)", () -> x.edge(0, -1, 1));
        x.dropNode(0);
        Check.noNode("edge(0, 0, 1), 0 went", () -> x.edge(0, 0, 1));
        Check.noNode("edge(1, 0, 0), 0 went", () -> x.edge(1, 0, 0));
        Check.eq("edge(1, 0, 1)", x.edge(1, 0, 1), 3);
    }

    private static void edgesAtMost() {
        WeftStore x = new WeftStore();
        x.node(0, 0);
        for (int i = 0; i < 60; i++) {
            Check.eq("edge", x.edge(0, i % 4, 0), i);
        }
        Check.notNow("edge, there were 60", () -> x.edge(0, 0, 0));
        x.dropEdge(59);
        Check.notNow("edge, there were 60, one went", () -> x.edge(0, 0, 0));
        Check.noNode("edge(0, 4, 0)", () -> x.edge(0, 4, 0));
        Check.eq("sizeAt(61)", x.sizeAt(61), 160);
        Check.eq("sizeAt(62)", x.sizeAt(62), 159);
    }

    private static void values() {
        WeftStore x = new WeftStore();
        x.node(2, 7);
        Check.eq("set(0, 8)", x.set(0, 8), 7);
        Check.eq("set(0, 8)", x.set(0, 8), 8);
        Check.eq("time() counts the same value, too", x.time(), 3);
        Check.eq("set(0, MIN)", x.set(0, Integer.MIN_VALUE), 8);
        Check.eq("valueAt", x.valueAt(0, 4), Integer.MIN_VALUE);
        Check.noNode("set(1, 0)", () -> x.set(1, 0));
        Check.noNode("set(-1, 0)", () -> x.set(-1, 0));
        x.dropNode(0);
        Check.noNode("set(0, 0)", () -> x.set(0, 0));
        Check.eq("time()", x.time(), 5);
    }

    private static void dropsOfEdges() {
        WeftStore x = new WeftStore();
        x.node(0, 0);
        x.edge(0, 0, 0);
        x.edge(0, 0, 0);
        Check.eq("dropEdge(1)", x.dropEdge(1), 4);
        Check.noNode("dropEdge(1) again", () -> x.dropEdge(1));
        Check.noNode("dropEdge(2)", () -> x.dropEdge(2));
        Check.noNode("dropEdge(-1)", () -> x.dropEdge(-1));
        Check.eq("sizeAt(3)", x.sizeAt(3), 102);
        Check.eq("sizeAt(4)", x.sizeAt(4), 101);
        x.dropNode(0);
        Check.noNode("dropEdge(0), its node went", () -> x.dropEdge(0));
    }

    private static void dropsOfNodes() {
        WeftStore x = new WeftStore();
        for (int i = 0; i < 4; i++) {
            x.node(0, i);
        }
        x.edge(0, 0, 1);
        x.edge(1, 0, 1);
        x.edge(2, 1, 1);
        x.edge(2, 1, 0);
        x.edge(1, 1, 3);
        x.dropEdge(4);
        Check.eq("dropNode(1)", x.dropNode(1), 3);
        Check.eq("it is one write", x.time(), 11);
        Check.eq("sizeAt(11)", x.sizeAt(11), 301);
        Check.eq("dropNode(3)", x.dropNode(3), 0);
        Check.noNode("dropNode(1)", () -> x.dropNode(1));
        Check.noNode("dropNode(4)", () -> x.dropNode(4));
        Check.noNode("dropNode(-1)", () -> x.dropNode(-1));
        Check.eq("an edge that stays", x.dropEdge(3), 13);
    }

    private static void keys() {
        WeftStore x = new WeftStore();
        x.node(0, 5);
        x.node(0, 5);
        x.node(1, 5);
        Check.notNow("key(0)", () -> x.key(0));
        Check.noNode("key(-1)", () -> x.key(-1));
        Check.noNode("key(4)", () -> x.key(4));
        x.set(1, 6);
        Check.is("key(0)", x.key(0), true);
        Check.eq("a key is no write", x.time(), 4);
        Check.notNow("node(0, 5)", () -> x.node(0, 5));
        Check.notNow("node(0, 6)", () -> x.node(0, 6));
        Check.notNow("set(1, 5)", () -> x.set(1, 5));
        Check.eq("set(1, 6), its own value", x.set(1, 6), 6);
        Check.eq("node(1, 5), another label", x.node(1, 5), 3);
        Check.eq("time()", x.time(), 6);
        Check.is("key(0)", x.key(0), false);
        Check.eq("node(0, 5)", x.node(0, 5), 4);
        Check.notNow("key(0)", () -> x.key(0));
        Check.is("key(3)", x.key(3), true);
        Check.eq("node(3, 5)", x.node(3, 5), 5);
        Check.notNow("node(3, 5)", () -> x.node(3, 5));
    }

    private static void keysOfDropped() {
        WeftStore x = new WeftStore();
        x.node(0, 5);
        x.node(0, 5);
        x.dropNode(0);
        Check.is("key(0)", x.key(0), true);
        x.set(1, 6);
        Check.eq("node(0, 5)", x.node(0, 5), 2);
        x.dropNode(1);
        Check.eq("node(0, 6)", x.node(0, 6), 3);
    }

    private static void shapes() {
        WeftStore x = new WeftStore();
        x.node(0, 0);
        x.node(1, 0);
        x.shape(2, 0, 1);
        Check.eq("a shape is no write", x.time(), 2);
        Check.eq("edge(0, 2, 1)", x.edge(0, 2, 1), 0);
        Check.notNow("edge(1, 2, 0)", () -> x.edge(1, 2, 0));
        Check.notNow("edge(0, 2, 0)", () -> x.edge(0, 2, 0));
        Check.notNow("edge(1, 2, 1)", () -> x.edge(1, 2, 1));
        Check.eq("another label has no shape", x.edge(1, 3, 0), 1);
        Check.notNow("shape(2, 1, 1)", () -> x.shape(2, 1, 1));
        Check.notNow("shape(2, 0, 0)", () -> x.shape(2, 0, 0));
        Check.notNow("the earlier one stays", () -> x.edge(0, 2, 0));
        x.shape(2, 0, 1);
        x.shape(2, -1, 99);
        Check.eq("edge(0, 2, 0)", x.edge(0, 2, 0), 2);
        Check.noNode("shape(-1, 0, 0)", () -> x.shape(-1, 0, 0));
        Check.noNode("shape(4, -1, 0)", () -> x.shape(4, -1, 0));
        Check.noNode("shape(0, -2, 0)", () -> x.shape(0, -2, 0));
        Check.noNode("shape(0, 4, 0)", () -> x.shape(0, 4, 0));
        Check.noNode("shape(0, 0, -1)", () -> x.shape(0, 0, -1));
        Check.noNode("shape(0, 0, 4)", () -> x.shape(0, 0, 4));
        Check.noNode("shape(2, 0, 4)", () -> x.shape(2, 0, 4));
        Check.eq("time()", x.time(), 5);
    }

    private static void shapesKept() {
        WeftStore x = new WeftStore();
        x.node(0, 0);
        x.node(1, 0);
        x.edge(0, 0, 1);
        Check.notNow("shape(0, 1, 0)", () -> x.shape(0, 1, 0));
        Check.eq("no shape was told", x.edge(1, 0, 1), 1);
        x.dropEdge(0);
        x.dropEdge(1);
        x.shape(0, 1, 0);
        Check.eq("only edges that are there matter", x.edge(1, 0, 0), 2);
        x.dropEdge(2);
        x.shape(0, 1, 1);
        Check.notNow("in place of the earlier one", () -> x.edge(1, 0, 0));
        Check.eq("edge(1, 0, 1)", x.edge(1, 0, 1), 3);
    }
}
