/** Promises 1 to 8, line by line: what arguments are right, what is answered, and when it throws what. */
final class BoundsOfWrites {
    private static final int MIN = Integer.MIN_VALUE;
    private static final int MAX = Integer.MAX_VALUE;

    private BoundsOfWrites() {
    }

    static void run() {
        newObject();
        nodeArguments();
        nodeThrowsIfThereWere24();
        nodeThrowsIfNoMachineIsUp();
        nodeThrowsIfAKeyWouldBeBroken();
        edgeArguments();
        edgeThrowsIfThereWere60();
        edgeThrowsIfAShapeWouldBeBroken();
        setArguments();
        setThrowsIfAKeyWouldBeBroken();
        dropEdgeArguments();
        dropEdgeAnswersTheTime();
        dropNodeArguments();
        dropNodeAnswersHowManyEdges();
        keyArguments();
        keyIsGivenAndTakenAway();
        keyThrowsIfTwoHaveTheSameValue();
        shapeArguments();
        shapeIsGivenAndTakenAway();
        shapeThrowsIfAnEdgeIsNotSo();
    }

    /** Nodes 0, 1 and 3, and edges 0 and 2, are there; node 2 and edges 1 and 3 went. */
    private static WeftStore gaps() {
        WeftStore x = Ask.nodes(4);
        x.edge(0, 0, 1);
        x.edge(1, 0, 0);
        x.edge(3, 0, 3);
        x.edge(2, 0, 3);
        x.dropEdge(1);
        x.dropNode(2);
        return x;
    }

    private static void newObject() {
        Doc.promise(1, "Creates a store without nodes; all machines are up");
        WeftStore x = new WeftStore();
        Check.eq("sizeAt(0)", x.sizeAt(0), 0);
        Check.noNode("machine(0)", () -> x.machine(0));
        for (int n = 0; n < 3; n++) {
            Check.eq("the first node", x.node(0, 0), n);
            Check.eq("on each machine one", x.machine(n), n);
        }
        WeftStore y = new WeftStore();
        for (int m = 0; m < 3; m++) {
            Check.is("toggle", y.toggle(m), false);
        }
    }

    private static void nodeArguments() {
        Doc.promise(2, "Adds a node");
        Doc.promise(2, "- `label`: 0 to 3");
        Doc.promise(2, "- `value`: any number");
        Doc.promise(2, "Returns its number");
        Doc.promise(2, "Throws `IndexOutOfBoundsException` if there is no such label");
        Ask.range(Ask.INDEX, WeftStore::new, "node(?, 0)", 0, 3);
        Ask.right(WeftStore::new, "node(0, ?)", MIN, -1, 0, 1, MAX);
        WeftStore x = Ask.nodes(5);
        x.dropNode(4);
        Check.eq("its number", x.node(0, 0), 5);
    }

    private static void nodeThrowsIfThereWere24() {
        Doc.promise(2, "Throws `IllegalStateException` if there were 24");
        WeftStore x = Ask.nodes(23);
        Check.eq("there were 23", x.node(0, 0), 23);
        Check.notNow("there were 24", () -> x.node(0, 0));
        x.dropNode(23);
        Check.notNow("there were 24, one went", () -> x.node(0, 0));
    }

    private static void nodeThrowsIfNoMachineIsUp() {
        Doc.promise(2, "no machine is up");
        for (int up = 0; up < 3; up++) {
            WeftStore x = new WeftStore();
            x.toggle((up + 1) % 3);
            x.toggle((up + 2) % 3);
            Check.eq("one is up", x.machine(x.node(0, 0)), up);
            x.toggle(up);
            Check.notNow("none is up", () -> x.node(0, 0));
        }
    }

    private static void nodeThrowsIfAKeyWouldBeBroken() {
        Doc.promise(2, "or a key would be broken");
        for (int value : new int[] {MIN, -1, 0, MAX}) {
            WeftStore x = new WeftStore();
            x.node(2, value);
            x.node(2, value + 1);
            x.key(2);
            Check.notNow("the value of the first", () -> x.node(2, value));
            Check.notNow("the value of the last", () -> x.node(2, value + 1));
            Check.eq("one less", x.node(2, value - 1), 2);
            Check.eq("another label", x.node(1, value), 3);
        }
    }

    private static void edgeArguments() {
        Doc.promise(3, "Adds an edge");
        Doc.promise(3, "- `from`: a node");
        Doc.promise(3, "- `label`: 0 to 3");
        Doc.promise(3, "- `to`: a node");
        Doc.promise(3, "Returns its number");
        Doc.promise(3, "Throws `IndexOutOfBoundsException` if there is no such node, of either, or label");
        Ask.right(BoundsOfWrites::gaps, "edge(?, 0, 3)", 0, 1, 3);
        Ask.wrong(Ask.INDEX, BoundsOfWrites::gaps, "edge(?, 0, 3)", MIN, -1, 2, 4, 24, MAX);
        Ask.right(BoundsOfWrites::gaps, "edge(3, 0, ?)", 0, 1, 3);
        Ask.wrong(Ask.INDEX, BoundsOfWrites::gaps, "edge(3, 0, ?)", MIN, -1, 2, 4, 24, MAX);
        Ask.range(Ask.INDEX, BoundsOfWrites::gaps, "edge(0, ?, 1)", 0, 3);
        Check.same("its number", Ask.on(gaps(), "edge(0, 0, 0)"), "4");
    }

    private static void edgeThrowsIfThereWere60() {
        Doc.promise(3, "Throws `IllegalStateException` if there were 60");
        WeftStore x = Ask.nodes(1);
        for (int e = 0; e < 59; e++) {
            x.edge(0, 0, 0);
        }
        Check.eq("there were 59", x.edge(0, 0, 0), 59);
        Check.notNow("there were 60", () -> x.edge(0, 0, 0));
        x.dropEdge(59);
        Check.notNow("there were 60, one went", () -> x.edge(0, 0, 0));
    }

    private static void edgeThrowsIfAShapeWouldBeBroken() {
        Doc.promise(3, "or a shape would be broken");
        WeftStore x = new WeftStore();
        x.node(0, 0);
        x.node(3, 0);
        x.shape(3, 0, 3);
        Check.notNow("its end is another one", () -> x.edge(0, 3, 0));
        Check.notNow("its beginning is another one", () -> x.edge(1, 3, 1));
        Check.notNow("both are", () -> x.edge(1, 3, 0));
        Check.eq("it is so", x.edge(0, 3, 1), 0);
        Check.eq("another label", x.edge(1, 0, 0), 1);
    }

    private static void setArguments() {
        Doc.promise(4, "Writes the value of a node");
        Doc.promise(4, "- `node`: a node");
        Doc.promise(4, "- `value`: any number");
        Doc.promise(4, "Returns the value before");
        Doc.promise(4, "Throws `IndexOutOfBoundsException` if there is no such node");
        Ask.right(BoundsOfWrites::gaps, "set(?, 7)", 0, 1, 3);
        Ask.wrong(Ask.INDEX, BoundsOfWrites::gaps, "set(?, 7)", MIN, -1, 2, 4, 24, MAX);
        Ask.right(BoundsOfWrites::gaps, "set(3, ?)", MIN, -1, 0, MAX);
        WeftStore x = gaps();
        Check.eq("the first value", x.set(3, MIN), 3);
        Check.eq("the value before", x.set(3, MAX), MIN);
        Check.eq("the value before", x.set(3, MAX), MAX);
        Check.eq("of each node its own", x.set(1, 0), 1);
    }

    private static void setThrowsIfAKeyWouldBeBroken() {
        Doc.promise(4, "Throws `IllegalStateException` if a key would be broken");
        WeftStore x = gaps();
        x.node(1, 1);
        x.key(0);
        Check.notNow("the value of another one", () -> x.set(3, 1));
        Check.notNow("the value of another one", () -> x.set(1, 3));
        Check.eq("the value of one that went", x.set(3, 2), 3);
        Check.eq("its own value", x.set(3, 2), 2);
        Check.eq("the value that it had", x.set(1, 3), 1);
        Check.eq("of another label", x.set(4, 3), 1);
    }

    private static void dropEdgeArguments() {
        Doc.promise(5, "Drops an edge");
        Doc.promise(5, "- `edge`: an edge");
        Doc.promise(5, "Throws `IndexOutOfBoundsException` if there is no such edge");
        Ask.right(BoundsOfWrites::gaps, "dropEdge(?)", 0, 2);
        Ask.wrong(Ask.INDEX, BoundsOfWrites::gaps, "dropEdge(?)", MIN, -1, 1, 3, 4, 60, MAX);
        WeftStore x = gaps();
        x.dropEdge(0);
        Check.noNode("it went", () -> x.dropEdge(0));
        WeftStore y = Ask.nodes(1);
        for (int e = 0; e < 60; e++) {
            y.edge(0, 0, 0);
        }
        Check.noNode("there are 60", () -> y.dropEdge(60));
        Check.eq("the last one", y.dropEdge(59), 62);
    }

    private static void dropEdgeAnswersTheTime() {
        Doc.promise(5, "Returns the time from which on it is gone");
        WeftStore x = gaps();
        int then = x.dropEdge(2);
        Check.eq("the time", then, 11);
        Check.eq("time()", x.time(), 11);
        Check.eq("there until then", x.sizeAt(10), 302);
        Check.eq("not from then on", x.sizeAt(11), 301);
    }

    private static void dropNodeArguments() {
        Doc.promise(6, "Drops a node and its edges");
        Doc.promise(6, "- `node`: a node");
        Doc.promise(6, "Throws `IndexOutOfBoundsException` if there is no such node");
        Ask.right(BoundsOfWrites::gaps, "dropNode(?)", 0, 1, 3);
        Ask.wrong(Ask.INDEX, BoundsOfWrites::gaps, "dropNode(?)", MIN, -1, 2, 4, 24, MAX);
        WeftStore x = Ask.nodes(24);
        Check.eq("the last of 24", x.dropNode(23), 0);
        Check.noNode("it went", () -> x.dropNode(23));
        Check.noNode("there are 24", () -> x.dropNode(24));
        Check.eq("all others are there", x.sizeAt(25), 2300);
    }

    private static void dropNodeAnswersHowManyEdges() {
        Doc.promise(6, "Returns how many edges go");
        WeftStore x = Ask.nodes(4);
        x.edge(0, 0, 1);
        x.edge(1, 0, 0);
        x.edge(0, 0, 0);
        x.edge(2, 0, 1);
        x.edge(1, 0, 2);
        x.dropEdge(4);
        Check.eq("none", x.dropNode(3), 0);
        Check.eq("one from it, one to it, one both", x.dropNode(0), 3);
        Check.eq("those that went do not count", x.dropNode(1), 1);
        Check.eq("none is left", x.dropNode(2), 0);
        WeftStore y = Ask.nodes(2);
        for (int e = 0; e < 60; e++) {
            y.edge(e % 2, 0, (e + 1) % 2);
        }
        Check.eq("60", y.dropNode(1), 60);
    }

    private static void keyArguments() {
        Doc.promise(7, "- `label`: 0 to 3");
        Doc.promise(7, "Throws `IndexOutOfBoundsException` if there is no such label");
        Ask.range(Ask.INDEX, BoundsOfWrites::gaps, "key(?)", 0, 3);
    }

    private static void keyIsGivenAndTakenAway() {
        Doc.promise(7, "Gives a label of nodes a key, or takes it away");
        Doc.promise(7, "Returns true if it has one then");
        for (int l = 0; l < 4; l++) {
            int label = l;
            WeftStore x = new WeftStore();
            x.node(l, 6);
            Check.is("it has one", x.key(l), true);
            Check.notNow("it has one", () -> x.node(label, 6));
            Check.eq("others have none", x.node((l + 1) % 4, 6), 1);
            Check.eq("others have none", x.node((l + 1) % 4, 6), 2);
            Check.is("it has none", x.key(l), false);
            Check.eq("it has none", x.node(l, 6), 3);
        }
    }

    private static void keyThrowsIfTwoHaveTheSameValue() {
        Doc.promise(7, "Throws `IllegalStateException` if two of its nodes have the same value");
        WeftStore x = Ask.nodes(24);
        x.set(0, 23);
        Check.notNow("the first and the last", () -> x.key(0));
        x.set(0, 0);
        x.set(22, 21);
        Check.notNow("two beside one another", () -> x.key(0));
        x.dropNode(21);
        Check.is("one of them went", x.key(0), true);
        WeftStore y = new WeftStore();
        y.node(0, 1);
        y.node(1, 1);
        Check.is("of two labels", y.key(0), true);
        Check.is("of two labels", y.key(1), true);
        Check.is("of no nodes", y.key(2), true);
    }

    private static WeftStore labelled() {
        WeftStore x = new WeftStore();
        for (int l = 0; l < 4; l++) {
            x.node(l, 0);
        }
        return x;
    }

    private static void shapeArguments() {
        Doc.promise(8, "- `label`: 0 to 3, of edges");
        Doc.promise(8, "- `from`: 0 to 3, of nodes; -1 to take it away");
        Doc.promise(8, "- `to`: 0 to 3, of nodes; of no matter to take it away");
        Doc.promise(8, "Throws `IndexOutOfBoundsException` if there is no such label");
        Ask.range(Ask.INDEX, WeftStore::new, "shape(?, 0, 0)", 0, 3);
        Ask.range(Ask.INDEX, WeftStore::new, "shape(?, -1, 0)", 0, 3);
        Ask.range(Ask.INDEX, WeftStore::new, "shape(0, ?, 0)", -1, 3);
        Ask.range(Ask.INDEX, WeftStore::new, "shape(0, 0, ?)", 0, 3);
        Ask.right(WeftStore::new, "shape(0, -1, ?)", MIN, -2, -1, 0, 3, 4, MAX);
        for (int n = 0; n < 16; n++) {
            WeftStore x = labelled();
            x.shape(3, n / 4, n % 4);
            Check.eq("it is so", x.edge(n / 4, 3, n % 4), 0);
        }
    }

    private static void shapeIsGivenAndTakenAway() {
        Doc.promise(8, "Gives a label of edges a shape, in place of an earlier one, or takes it away");
        WeftStore x = labelled();
        x.shape(0, 1, 2);
        Check.notNow("it has one", () -> x.edge(3, 0, 0));
        x.shape(0, 3, 0);
        Check.eq("in place of the earlier one", x.edge(3, 0, 0), 0);
        Check.notNow("in place of the earlier one", () -> x.edge(1, 0, 2));
        x.shape(0, -1, 2);
        Check.eq("it has none", x.edge(1, 0, 2), 1);
        x.shape(0, -1, 2);
        Check.eq("it has none", x.edge(1, 0, 1), 2);
    }

    private static void shapeThrowsIfAnEdgeIsNotSo() {
        Doc.promise(8, "Throws `IllegalStateException` if an edge that is there is not so");
        WeftStore x = labelled();
        x.edge(0, 2, 1);
        x.shape(2, 0, 1);
        Check.notNow("its end is another one", () -> x.shape(2, 0, 2));
        Check.notNow("its beginning is another one", () -> x.shape(2, 1, 1));
        Check.notNow("the earlier shape stays", () -> x.edge(0, 2, 2));
        x.shape(3, 2, 2);
        x.dropEdge(0);
        x.shape(2, 0, 2);
        Check.eq("it went", x.edge(0, 2, 2), 1);
        WeftStore y = labelled();
        y.edge(0, 2, 1);
        y.dropNode(1);
        y.shape(2, 3, 3);
        Check.eq("it went with its node", y.edge(3, 2, 3), 1);
    }
}
