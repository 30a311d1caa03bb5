/** Promises 15 to 21: begin, write, link, unlink, read, sees, commit. */
public final class TransactionsTest {
    public static void main(String[] args) {
        begins();
        writesAndReads();
        links();
        unlinks();
        snapshots();
        commits();
        endsWithout();
        clashes();
        clashesByNeighbours();
        noClash();
        brokenKeys();
        brokenShapes();
        tooMany();
        numbers();
        clashesOfSeveralWrites();
        atTheLimits();
        Check.end();
    }

    private static WeftStore withNodes(int count) {
        WeftStore x = new WeftStore();
        for (int i = 0; i < count; i++) {
            x.node(0, 10 * i);
        }
        return x;
    }

    private static void begins() {
        WeftStore x = withNodes(1);
        for (int i = 0; i < 4; i++) {
            Check.eq("begin()", x.begin(), i);
        }
        Check.notNow("begin(), 4 are open", () -> x.begin());
        x.commit(2, false);
        x.commit(1, true);
        Check.eq("the lowest free", x.begin(), 1);
        Check.eq("the next", x.begin(), 2);
        Check.notNow("begin()", () -> x.begin());
        Check.eq("time()", x.time(), 1);
    }

    private static void writesAndReads() {
        WeftStore x = withNodes(2);
        Check.noNode("write, none open", () -> x.write(0, 0, 1));
        Check.noNode("read, none open", () -> x.read(0, 0));
        Check.noNode("sees, none open", () -> x.sees(0, 0));
        Check.noNode("link, none open", () -> x.link(0, 0, 0, 0));
        Check.noNode("commit, none open", () -> x.commit(0, false));
        x.begin();
        x.write(0, 1, 7);
        Check.eq("read(0, 1)", x.read(0, 1), 7);
        x.write(0, 1, Integer.MIN_VALUE);
        Check.eq("read(0, 1)", x.read(0, 1), Integer.MIN_VALUE);
        Check.eq("read(0, 0)", x.read(0, 0), 0);
        Check.eq("nothing is written yet", x.valueAt(1, 2), 10);
        Check.noNode("write(0, 2, 0)", () -> x.write(0, 2, 0));
        Check.noNode("write(0, -1, 0)", () -> x.write(0, -1, 0));
        Check.noNode("write(-1, 0, 0)", () -> x.write(-1, 0, 0));
        Check.noNode("write(4, 0, 0)", () -> x.write(4, 0, 0));
        Check.noNode("write(1, 0, 0)", () -> x.write(1, 0, 0));
        Check.noNode("read(0, 2)", () -> x.read(0, 2));
        Check.noNode("read(-1, 0)", () -> x.read(-1, 0));
        Check.noNode("sees(0, 2)", () -> x.sees(0, 2));
        Check.noNode("sees(0, -1)", () -> x.sees(0, -1));
        Check.noNode("sees(4, 0)", () -> x.sees(4, 0));
        Check.noNode("commit(-1, true)", () -> x.commit(-1, true));
        Check.noNode("commit(4, false)", () -> x.commit(4, false));
        Check.eq("commit", x.commit(0, true), 3);
        Check.noNode("read, it is over", () -> x.read(0, 0));
        x.begin();
        Check.eq("nothing stays of the one before", x.read(0, 1), Integer.MIN_VALUE);
        x.set(1, 3);
        Check.eq("nor is its write read again", x.read(0, 1), Integer.MIN_VALUE);
    }

    private static void links() {
        WeftStore x = withNodes(2);
        x.begin();
        Check.noNode("link(0, 2, 0, 0)", () -> x.link(0, 2, 0, 0));
        Check.noNode("link(0, 0, 0, 2)", () -> x.link(0, 0, 0, 2));
        Check.noNode("link(0, 0, 4, 0)", () -> x.link(0, 0, 4, 0));
        Check.noNode("link(0, 0, -1, 0)", () -> x.link(0, 0, -1, 0));
        Check.noNode("link(1, 0, 0, 0)", () -> x.link(1, 0, 0, 0));
        for (int i = 1; i <= 8; i++) {
            Check.eq("link", x.link(0, 0, i % 4, 1), i);
        }
        Check.notNow("it adds 8", () -> x.link(0, 0, 0, 1));
        Check.noNode("it adds 8, no such label", () -> x.link(0, 0, 4, 1));
        Check.eq("sees(0, 0)", x.sees(0, 0), 8);
        Check.eq("sees(0, 1)", x.sees(0, 1), 0);
        Check.eq("sizeAt(2)", x.sizeAt(2), 200);
        Check.eq("commit", x.commit(0, true), 3);
        Check.eq("sizeAt(3)", x.sizeAt(3), 208);
        x.begin();
        Check.eq("from none again", x.link(0, 1, 0, 1), 1);
        Check.eq("a loop leads from it once", x.sees(0, 1), 1);
    }

    private static void unlinks() {
        WeftStore x = withNodes(2);
        x.edge(0, 0, 1);
        x.edge(0, 0, 0);
        x.edge(1, 0, 0);
        x.dropEdge(2);
        x.begin();
        x.edge(1, 2, 1);
        Check.noNode("unlink(0, 2), it went", () -> x.unlink(0, 2));
        Check.noNode("unlink(0, 3), it came since", () -> x.unlink(0, 3));
        Check.noNode("unlink(0, 4)", () -> x.unlink(0, 4));
        Check.noNode("unlink(0, -1)", () -> x.unlink(0, -1));
        Check.noNode("unlink(0, 64)", () -> x.unlink(0, 64));
        Check.noNode("unlink(1, 0)", () -> x.unlink(1, 0));
        Check.noNode("unlink(-1, 0)", () -> x.unlink(-1, 0));
        Check.noNode("unlink(4, 0)", () -> x.unlink(4, 0));
        x.commit(x.begin(), false);
        Check.noNode("unlink(1, 0), it is over", () -> x.unlink(1, 0));
        Check.eq("sees(0, 0)", x.sees(0, 0), 2);
        x.unlink(0, 1);
        Check.eq("sees(0, 0)", x.sees(0, 0), 1);
        Check.noNode("unlink(0, 1) again", () -> x.unlink(0, 1));
        x.dropEdge(0);
        Check.eq("sees(0, 0), it still sees it", x.sees(0, 0), 1);
        x.unlink(0, 0);
        Check.eq("sees(0, 0)", x.sees(0, 0), 0);
        Check.eq("it clashes", x.commit(0, true), -1);
    }

    private static void snapshots() {
        WeftStore x = withNodes(2);
        x.edge(0, 0, 1);
        x.begin();
        x.set(0, 5);
        x.edge(0, 0, 0);
        x.node(1, 4);
        x.begin();
        Check.eq("read(0, 0)", x.read(0, 0), 0);
        Check.eq("read(1, 0)", x.read(1, 0), 5);
        Check.eq("sees(0, 0)", x.sees(0, 0), 1);
        Check.eq("sees(1, 0)", x.sees(1, 0), 2);
        Check.noNode("read(0, 2)", () -> x.read(0, 2));
        Check.noNode("link(0, 0, 0, 2)", () -> x.link(0, 0, 0, 2));
        Check.eq("read(1, 2)", x.read(1, 2), 4);
        x.dropNode(0);
        Check.eq("read(0, 0)", x.read(0, 0), 0);
        Check.eq("read(1, 0)", x.read(1, 0), 5);
        Check.eq("sees(1, 0)", x.sees(1, 0), 2);
        Check.eq("link(1, 0, 0, 0)", x.link(1, 0, 0, 0), 1);
        Check.eq("it went", x.commit(1, true), -1);
        Check.eq("only read: no clash", x.commit(0, true), 7);
    }

    private static void commits() {
        WeftStore x = withNodes(3);
        x.edge(0, 0, 1);
        x.begin();
        x.write(0, 0, 1);
        x.write(0, 2, 2);
        x.link(0, 1, 1, 2);
        x.link(0, 2, 2, 2);
        x.unlink(0, 0);
        Check.eq("all at one time", x.commit(0, true), 5);
        Check.eq("time()", x.time(), 5);
        Check.eq("sizeAt(4)", x.sizeAt(4), 301);
        Check.eq("sizeAt(5)", x.sizeAt(5), 302);
        Check.eq("valueAt(0, 4)", x.valueAt(0, 4), 0);
        Check.eq("valueAt(0, 5)", x.valueAt(0, 5), 1);
        Check.eq("valueAt(2, 5)", x.valueAt(2, 5), 2);
        Check.eq("reasons(1, 1, 2)", x.reasons(1, 1, 2), 1);
        Check.eq("reasons(0, 0, 1)", x.reasons(0, 0, 1), 0);
        x.begin();
        Check.eq("without writes", x.commit(0, true), 5);
        x.begin();
        x.write(0, 0, 1);
        Check.eq("the same value is a write, too", x.commit(0, true), 6);
    }

    private static void endsWithout() {
        WeftStore x = withNodes(2);
        x.edge(0, 0, 1);
        x.begin();
        x.write(0, 0, 1);
        x.link(0, 0, 0, 0);
        x.unlink(0, 0);
        x.set(0, 6);
        Check.eq("not wanted, it would clash", x.commit(0, false), 4);
        Check.eq("valueAt(0, 4)", x.valueAt(0, 4), 6);
        Check.eq("sizeAt(4)", x.sizeAt(4), 201);
        Check.eq("begin()", x.begin(), 0);
        Check.eq("sees(0, 0)", x.sees(0, 0), 1);
        Check.eq("no writes are left", x.commit(0, true), 4);
    }

    private static void clashes() {
        WeftStore x = withNodes(3);
        x.begin();
        x.begin();
        x.write(0, 0, 1);
        x.write(0, 1, 1);
        x.write(1, 0, 2);
        Check.eq("the first", x.commit(0, true), 4);
        Check.eq("the second", x.commit(1, true), -1);
        Check.eq("time()", x.time(), 4);
        Check.eq("valueAt(0, 4)", x.valueAt(0, 4), 1);
        Check.noNode("it is over", () -> x.read(1, 0));
        x.begin();
        x.write(0, 2, 5);
        x.dropNode(2);
        Check.eq("it went", x.commit(0, true), -1);
        x.begin();
        x.write(0, 0, 5);
        x.set(0, 1);
        Check.eq("the same value was written", x.commit(0, true), -1);
        Check.eq("nothing is written", x.valueAt(0, x.time()), 1);
    }

    private static void clashesByNeighbours() {
        WeftStore x = withNodes(5);
        x.edge(0, 0, 1);
        x.edge(2, 0, 3);
        x.begin();
        x.write(0, 1, 1);
        x.dropEdge(0);
        Check.eq("an edge went at it", x.commit(0, true), -1);
        x.begin();
        x.write(0, 1, 1);
        x.edge(0, 0, 1);
        Check.eq("an edge came at it", x.commit(0, true), -1);
        x.begin();
        x.link(0, 4, 0, 0);
        x.edge(0, 0, 1);
        Check.eq("an edge came at the end of its edge", x.commit(0, true), -1);
        x.begin();
        x.unlink(0, 1);
        x.set(3, 9);
        Check.eq("the end of an edge that it drops", x.commit(0, true), -1);
        x.begin();
        x.unlink(0, 1);
        x.set(2, 9);
        Check.eq("the other end", x.commit(0, true), -1);
        x.begin();
        x.write(0, 3, 1);
        x.dropNode(2);
        Check.eq("its neighbour went, and the edge with it", x.commit(0, true), -1);
        x.begin();
        x.begin();
        x.write(1, 1, 1);
        x.link(0, 4, 0, 1);
        Check.is("commit(0)", x.commit(0, true) > 0, true);
        Check.eq("an edge was committed at it", x.commit(1, true), -1);
        x.begin();
        x.begin();
        x.unlink(0, 2);
        x.write(1, 0, 1);
        Check.is("commit(0)", x.commit(0, true) > 0, true);
        Check.eq("an edge was dropped in a commit at it", x.commit(1, true), -1);
    }

    private static void noClash() {
        WeftStore x = withNodes(5);
        x.edge(0, 0, 1);
        x.begin();
        x.write(0, 2, 7);
        x.link(0, 3, 0, 2);
        x.set(0, 1);
        x.edge(0, 0, 4);
        x.move(2, 0);
        x.toggle(1);
        Check.eq("others were touched", x.commit(0, true), 9);
        x.set(2, 8);
        x.begin();
        x.write(0, 2, 9);
        Check.eq("it was touched ahead of it", x.commit(0, true), 11);
        x.begin();
        x.begin();
        x.read(1, 0);
        x.write(0, 0, 3);
        x.write(1, 1, 4);
        Check.eq("commit(0)", x.commit(0, true), 12);
        Check.eq("what is read alone is not touched", x.commit(1, true), 13);
    }

    private static void brokenKeys() {
        WeftStore x = withNodes(3);
        x.node(1, 0);
        x.key(0);
        x.begin();
        x.write(0, 0, 10);
        Check.eq("a key would be broken", x.commit(0, true), -2);
        Check.noNode("it is over", () -> x.read(0, 0));
        Check.eq("time()", x.time(), 4);
        x.begin();
        x.write(0, 0, 10);
        x.write(0, 1, 20);
        x.write(0, 2, 0);
        Check.eq("in a ring", x.commit(0, true), 5);
        x.begin();
        x.write(0, 3, 10);
        Check.eq("another label", x.commit(0, true), 6);
        x.begin();
        x.write(0, 0, 77);
        x.write(0, 1, 77);
        x.write(0, 2, 78);
        Check.eq("two of its writes", x.commit(0, true), -2);
        Check.eq("nothing is written", x.valueAt(2, 6), 0);
        x.begin();
        x.write(0, 1, 10);
        x.set(0, 11);
        Check.eq("as it is by now", x.commit(0, true), 8);
        x.begin();
        x.write(0, 1, 11);
        x.set(1, 12);
        Check.eq("a clash goes first", x.commit(0, true), -1);
    }

    private static void brokenShapes() {
        WeftStore x = withNodes(2);
        x.node(1, 0);
        x.begin();
        x.link(0, 0, 3, 1);
        x.write(0, 0, 4);
        x.shape(3, 0, 1);
        Check.eq("a shape that was told since", x.commit(0, true), -2);
        Check.eq("valueAt(0, 3)", x.valueAt(0, 3), 0);
        x.begin();
        Check.eq("it can be added", x.link(0, 2, 3, 0), 1);
        x.shape(3, -1, 0);
        Check.eq("the shape was taken away", x.commit(0, true), 4);
        x.begin();
        x.unlink(0, 0);
        Check.eq("dropped", x.commit(0, true), 5);
        x.shape(3, 0, 1);
        x.begin();
        x.link(0, 0, 3, 2);
        x.link(0, 1, 3, 1);
        Check.eq("one of two", x.commit(0, true), -2);
        Check.eq("sizeAt(5)", x.sizeAt(5), 300);
        x.begin();
        x.link(0, 0, 3, 2);
        Check.eq("commit", x.commit(0, true), 6);
    }

    private static void tooMany() {
        WeftStore x = withNodes(1);
        for (int i = 0; i < 58; i++) {
            x.edge(0, 0, 0);
        }
        x.begin();
        x.link(0, 0, 0, 0);
        x.link(0, 0, 0, 0);
        x.link(0, 0, 0, 0);
        x.unlink(0, 0);
        x.unlink(0, 1);
        Check.eq("61 in all", x.commit(0, true), -2);
        Check.eq("sizeAt(59)", x.sizeAt(59), 158);
        x.begin();
        x.link(0, 0, 0, 0);
        x.link(0, 0, 1, 0);
        Check.eq("60 in all", x.commit(0, true), 60);
        x.begin();
        x.unlink(0, 57);
        x.write(0, 0, 6);
        Check.eq("none more", x.commit(0, true), 61);
        x.begin();
        x.link(0, 0, 0, 0);
        x.set(0, 0);
        Check.eq("a clash goes first", x.commit(0, true), -1);
    }

    /** One clash among many writes is enough, whichever it is. */
    private static void clashesOfSeveralWrites() {
        for (int touched = 0; touched < 8; touched++) {
            WeftStore x = withNodes(9);
            x.edge(3, 0, 4);
            x.edge(5, 0, 5);
            x.begin();
            x.write(0, 0, 1);
            x.link(0, 1, 0, 2);
            x.link(0, 6, 0, 7);
            x.unlink(0, 0);
            x.unlink(0, 1);
            x.set(touched, 99);
            Check.eq("node " + touched + " was touched", x.commit(0, true), -1);
        }
    }

    private static void atTheLimits() {
        WeftStore x = withNodes(24);
        for (int i = 0; i < 60; i++) {
            x.edge(i % 24, i % 4, i % 23);
        }
        x.begin();
        x.begin();
        Check.noNode("read(0, 24)", () -> x.read(0, 24));
        Check.noNode("write(0, 24, 0)", () -> x.write(0, 24, 0));
        Check.noNode("sees(0, 24)", () -> x.sees(0, 24));
        Check.noNode("link(0, 24, 0, 0)", () -> x.link(0, 24, 0, 0));
        Check.noNode("unlink(0, 60)", () -> x.unlink(0, 60));
        Check.eq("sees(0, 11)", x.sees(0, 11), 3);
        for (int e = 0; e < 60; e++) {
            x.unlink(0, e);
        }
        for (int n = 0; n < 24; n++) {
            Check.eq("sees(0, n)", x.sees(0, n), 0);
            x.write(0, n, -n);
        }
        Check.eq("all of it", x.commit(0, true), 85);
        Check.eq("sizeAt(84)", x.sizeAt(84), 2460);
        Check.eq("sizeAt(85)", x.sizeAt(85), 2400);
        Check.eq("valueAt(23, 85)", x.valueAt(23, 85), -23);
        Check.eq("sees(1, 23)", x.sees(1, 23), 2);
    }

    private static void numbers() {
        WeftStore x = withNodes(2);
        x.edge(0, 0, 1);
        x.begin();
        x.begin();
        x.link(0, 0, 1, 0);
        x.link(0, 0, 2, 0);
        x.link(1, 1, 3, 1);
        Check.eq("the later one first", x.commit(1, true), 4);
        Check.eq("then the other", x.commit(0, true), 5);
        Check.eq("edge", x.edge(0, 0, 0), 4);
        x.dropEdge(1);
        Check.eq("edge 1 was the first to be committed", x.reasons(1, 3, 1), 0);
        x.dropEdge(2);
        Check.eq("in their order", x.reasons(0, 1, 0), 0);
        Check.eq("edge 3 is still there", x.reasons(0, 2, 0), 1);
    }
}
