/** Promises 15 to 24, line by line: transactions and time. */
final class BoundsOfTransactions {
    private static final int MIN = Integer.MIN_VALUE;
    private static final int MAX = Integer.MAX_VALUE;

    private BoundsOfTransactions() {
    }

    static void run() {
        beginAnswersItsNumber();
        whichTransactionsAreOpen();
        writeArguments();
        linkArguments();
        linkThrowsIfItAdds8();
        unlinkArguments();
        unlinkOfWhatWasThere();
        readArguments();
        seesArguments();
        commitAnswersTheTime();
        commitAnswersLess();
        timeAnswersTheTime();
        valueAtArguments();
        valueAtThrows();
        sizeAtArguments();
        sizeAtTheBounds();
    }

    /**
     * The transaction 1 sees the nodes 0, 1 and 3, and the edges 0 and 2; node 2 and the edges 1 and 3 went ahead of it.
     * Since it began node 3 and edge 2 went, and node 4 and the edges 4 and 5 came. Transaction 2 is open, too.
     */
    private static WeftStore open() {
        WeftStore x = Ask.nodes(4);
        x.edge(0, 0, 1);
        x.edge(1, 0, 0);
        x.edge(3, 0, 3);
        x.edge(2, 0, 3);
        x.dropEdge(1);
        x.dropNode(2);
        x.begin();
        x.begin();
        x.begin();
        x.commit(0, false);
        x.dropNode(3);
        x.node(0, 40);
        x.edge(0, 0, 4);
        x.edge(1, 0, 1);
        return x;
    }

    private static void beginAnswersItsNumber() {
        Doc.promise(15, "Begins a transaction");
        Doc.promise(15, "Returns its number");
        Doc.promise(15, "Throws `IllegalStateException` if 4 are open");
        WeftStore x = open();
        Check.eq("the lowest free one", x.begin(), 0);
        Check.eq("3 were open", x.begin(), 3);
        Check.notNow("4 are open", () -> x.begin());
        x.commit(2, true);
        Check.eq("3 were open", x.begin(), 2);
        Check.notNow("4 are open", () -> x.begin());
    }

    private static void whichTransactionsAreOpen() {
        Doc.promise(16, "- `transaction`: an open transaction");
        Doc.promise(16, "Throws `IndexOutOfBoundsException` if there is no such transaction");
        Doc.promise(17, "- `transaction`: an open transaction");
        Doc.promise(17, "Throws `IndexOutOfBoundsException` if there is no such transaction");
        Doc.promise(18, "- `transaction`: an open transaction");
        Doc.promise(18, "Throws `IndexOutOfBoundsException` if there is no such transaction");
        Doc.promise(19, "- `transaction`: an open transaction");
        Doc.promise(19, "Throws `IndexOutOfBoundsException` if there is no such transaction");
        Doc.promise(20, "- `transaction`: an open transaction");
        Doc.promise(20, "Throws `IndexOutOfBoundsException` if there is no such transaction");
        Doc.promise(21, "- `transaction`: an open transaction");
        Doc.promise(21, "Throws `IndexOutOfBoundsException` if there is no such transaction");
        String[] calls = {"write(?, 0, 5)", "link(?, 0, 0, 1)", "unlink(?, 0)", "read(?, 0)", "sees(?, 0)",
            "commit(?, true)", "commit(?, false)"};
        for (String call : calls) {
            Ask.right(BoundsOfTransactions::open, call, 1, 2);
            Ask.wrong(Ask.INDEX, BoundsOfTransactions::open, call, MIN, -1, 0, 3, 4, MAX);
        }
    }

    private static void writeArguments() {
        Doc.promise(16, "Writes a value in a transaction");
        Doc.promise(16, "- `node`: a node that it sees");
        Doc.promise(16, "- `value`: any number");
        Doc.promise(16, "or node");
        Ask.right(BoundsOfTransactions::open, "write(1, ?, 5)", 0, 1, 3);
        Ask.wrong(Ask.INDEX, BoundsOfTransactions::open, "write(1, ?, 5)", MIN, -1, 2, 4, 5, 24, MAX);
        for (int value : new int[] {MIN, -1, 0, MAX}) {
            WeftStore x = open();
            x.write(1, 1, value);
            Check.eq("read", x.read(1, 1), value);
            Check.eq("not written yet", x.valueAt(1, x.time()), 1);
            x.commit(1, false);
            x.begin();
            x.write(0, 1, value);
            Check.eq("commit", x.commit(0, true), 15);
            Check.eq("written", x.valueAt(1, 15), value);
            Check.eq("not ahead of it", x.valueAt(1, 14), 1);
        }
    }

    private static void linkArguments() {
        Doc.promise(17, "Adds an edge in a transaction");
        Doc.promise(17, "- `from`: a node that it sees");
        Doc.promise(17, "- `label`: 0 to 3");
        Doc.promise(17, "- `to`: a node that it sees");
        Doc.promise(17, "node, of either, or label");
        Ask.right(BoundsOfTransactions::open, "link(1, ?, 0, 0)", 0, 1, 3);
        Ask.wrong(Ask.INDEX, BoundsOfTransactions::open, "link(1, ?, 0, 0)", MIN, -1, 2, 4, 5, 24, MAX);
        Ask.right(BoundsOfTransactions::open, "link(1, 0, 0, ?)", 0, 1, 3);
        Ask.wrong(Ask.INDEX, BoundsOfTransactions::open, "link(1, 0, 0, ?)", MIN, -1, 2, 4, 5, 24, MAX);
        Ask.range(Ask.INDEX, BoundsOfTransactions::open, "link(1, 0, ?, 1)", 0, 3);
        for (int l = 0; l < 4; l++) {
            WeftStore x = Ask.nodes(2);
            x.begin();
            x.link(0, 1, l, 0);
            x.commit(0, true);
            for (int other = 0; other < 4; other++) {
                Check.eq("an edge with the label " + other, x.reasons(1, other, 0), other == l ? 1 : 0);
            }
        }
    }

    private static void linkThrowsIfItAdds8() {
        Doc.promise(17, "Returns how many it adds then");
        Doc.promise(17, "Throws `IllegalStateException` if it adds 8");
        WeftStore x = open();
        for (int i = 1; i <= 8; i++) {
            Check.eq("how many it adds then", x.link(1, i % 2, i % 4, 0), i);
        }
        Check.notNow("it adds 8", () -> x.link(1, 0, 0, 1));
        Check.eq("another one adds none", x.link(2, 0, 0, 1), 1);
        Check.eq("4 of 8, and edge 0", x.sees(1, 0), 5);
        x.unlink(1, 0);
        Check.notNow("it adds 8, though it drops one", () -> x.link(1, 0, 0, 1));
        x.commit(1, false);
        x.begin();
        Check.eq("one that begins adds none", x.link(0, 0, 0, 1), 1);
    }

    private static void unlinkArguments() {
        Doc.promise(18, "Drops an edge in a transaction");
        Doc.promise(18, "- `edge`: an edge that was there when it began, and that it did not drop");
        Doc.promise(18, "or edge");
        Ask.right(BoundsOfTransactions::open, "unlink(1, ?)", 0, 2);
        Ask.wrong(Ask.INDEX, BoundsOfTransactions::open, "unlink(1, ?)", MIN, -1, 1, 3, 4, 5, 6, 59, 60, 64, MAX);
        WeftStore x = open();
        x.unlink(1, 0);
        Check.noNode("it did drop that", () -> x.unlink(1, 0));
        x.unlink(2, 0);
        Check.noNode("and so did that", () -> x.unlink(2, 0));
        x.unlink(1, 2);
        x.commit(1, false);
        x.begin();
        x.unlink(0, 0);
        Check.noNode("edge 2 went", () -> x.unlink(0, 2));
        x.unlink(0, 4);
    }

    private static void unlinkOfWhatWasThere() {
        Doc.promise(18, "an edge that was there when it began");
        WeftStore x = Ask.nodes(1);
        for (int e = 0; e < 60; e++) {
            x.edge(0, 0, 0);
        }
        x.begin();
        for (int e = 59; e >= 0; e--) {
            int edge = e;
            x.unlink(0, e);
            Check.noNode("it did drop that", () -> x.unlink(0, edge));
            Check.eq("it sees the others", x.sees(0, 0), e);
        }
        Check.eq("commit", x.commit(0, true), 62);
        Check.eq("all of them went", x.sizeAt(62), 100);
        WeftStore y = Ask.nodes(1);
        y.begin();
        y.edge(0, 0, 0);
        y.begin();
        y.dropEdge(0);
        y.begin();
        Check.noNode("it came one later", () -> y.unlink(0, 0));
        Check.noNode("it went at that very time", () -> y.unlink(2, 0));
        y.unlink(1, 0);
        Check.eq("it came at that very time, and went one later", y.sees(1, 0), 0);
    }

    private static void readArguments() {
        Doc.promise(19, "Reads a value in a transaction");
        Doc.promise(19, "- `node`: a node that it sees");
        Doc.promise(19, "Returns the value");
        Doc.promise(19, "or node");
        Ask.right(BoundsOfTransactions::open, "read(1, ?)", 0, 1, 3);
        Ask.wrong(Ask.INDEX, BoundsOfTransactions::open, "read(1, ?)", MIN, -1, 2, 4, 5, 24, MAX);
        WeftStore x = open();
        x.set(0, 9);
        Check.eq("as it was", x.read(1, 0), 0);
        Check.eq("of one that went since", x.read(1, 3), 3);
        x.write(1, 3, MIN);
        Check.eq("its own", x.read(1, 3), MIN);
        Check.eq("not that of another one", x.read(2, 3), 3);
        WeftStore y = Ask.nodes(24);
        y.begin();
        Check.eq("the last of 24", y.read(0, 23), 23);
        Check.noNode("there are 24", () -> y.read(0, 24));
    }

    private static void seesArguments() {
        Doc.promise(20, "Returns how many edges a transaction sees that lead from a node");
        Doc.promise(20, "- `node`: a node that it sees");
        Doc.promise(20, "Returns how many.");
        Doc.promise(20, "or node");
        Ask.right(BoundsOfTransactions::open, "sees(1, ?)", 0, 1, 3);
        Ask.wrong(Ask.INDEX, BoundsOfTransactions::open, "sees(1, ?)", MIN, -1, 2, 4, 5, 24, MAX);
        WeftStore x = open();
        Check.eq("edge 0, not edge 4", x.sees(1, 0), 1);
        Check.eq("neither edge 1 nor edge 5", x.sees(1, 1), 0);
        Check.eq("edge 2", x.sees(1, 3), 1);
        x.link(1, 1, 3, 0);
        x.link(1, 1, 3, 1);
        Check.eq("those that it adds", x.sees(1, 1), 2);
        Check.eq("not those that lead to a node", x.sees(1, 0), 1);
        x.unlink(1, 2);
        Check.eq("not that which it drops", x.sees(1, 3), 0);
        Check.eq("another one does", x.sees(2, 3), 1);
        WeftStore y = Ask.nodes(2);
        for (int e = 0; e < 60; e++) {
            y.edge(0, 0, 1);
        }
        y.begin();
        for (int i = 0; i < 8; i++) {
            y.link(0, 0, 0, 1);
        }
        Check.eq("68 at most", y.sees(0, 0), 68);
    }

    private static void commitAnswersTheTime() {
        Doc.promise(21, "Commits a transaction, or ends it without");
        Doc.promise(21, "- `isWanted`: false to end it without");
        Doc.promise(21, "Returns the time then");
        WeftStore x = open();
        x.write(1, 1, 5);
        x.link(1, 0, 0, 0);
        x.unlink(1, 0);
        Check.eq("ended without", x.commit(1, false), 14);
        Check.eq("nothing is written", x.valueAt(1, 14), 1);
        Check.eq("nothing is written", x.sizeAt(14), 303);
        Check.eq("without writes", x.commit(2, true), 14);
        x.begin();
        x.write(0, 1, 5);
        x.link(0, 0, 0, 0);
        x.unlink(0, 0);
        Check.eq("with writes", x.commit(0, true), 15);
        Check.eq("all is written", x.valueAt(1, 15), 5);
        Check.eq("one edge came, one went", x.sizeAt(15), 303);
        Check.eq("it came", x.reasons(0, 0, 0), 1);
        Check.eq("it went", x.reasons(0, 0, 1), 0);
    }

    private static void commitAnswersLess() {
        Doc.promise(21, "-1 if it clashes, -2 if something would be broken or too many");
        WeftStore x = open();
        x.write(1, 0, 5);
        Check.eq("an edge came at node 0", x.commit(1, true), -1);
        x.write(2, 3, 5);
        Check.eq("node 3 went", x.commit(2, true), -1);
        x.key(0);
        x.begin();
        x.write(0, 0, 1);
        Check.eq("a key would be broken", x.commit(0, true), -2);
        x.shape(2, 1, 1);
        x.begin();
        x.link(0, 0, 2, 0);
        Check.eq("a shape would be broken", x.commit(0, true), -2);
        for (int e = 6; e < 60; e++) {
            x.edge(0, 0, 0);
        }
        x.begin();
        x.link(0, 1, 0, 1);
        Check.eq("too many", x.commit(0, true), -2);
        x.begin();
        x.link(0, 1, 0, 1);
        x.write(0, 1, 0);
        x.link(0, 1, 2, 1);
        x.set(1, 7);
        Check.eq("a clash goes first", x.commit(0, true), -1);
        x.begin();
        x.link(0, 1, 0, 1);
        Check.eq("a clash that is ended without is none", x.commit(0, false), x.time());
    }

    private static void timeAnswersTheTime() {
        Doc.promise(22, "Returns the time");
        WeftStore x = new WeftStore();
        Check.eq("a new one", x.time(), 0);
        x.node(0, 0);
        for (int i = 2; i <= 250; i++) {
            x.set(0, 0);
            Check.eq("time()", x.time(), i);
        }
    }

    private static void valueAtArguments() {
        Doc.promise(23, "- `node`: a node that was there then");
        Doc.promise(23, "- `time`: 0 to now");
        WeftStore x = open();
        for (int t = 0; t <= 14; t++) {
            for (int n = 0; n < 5; n++) {
                boolean isThere = t > n && (n != 2 || t < 10) && (n != 3 || t < 11) && (n != 4 || t >= 12);
                String due = isThere ? String.valueOf(n == 4 ? 40 : n) : Ask.INDEX;
                Check.same("valueAt(" + n + ", " + t + ")", Ask.on(x, "valueAt(" + n + ", " + t + ")"), due);
            }
        }
        Ask.wrong(Ask.ARGUMENT, BoundsOfTransactions::open, "valueAt(0, ?)", MIN, -1, 15, MAX);
        Ask.wrong(Ask.INDEX, BoundsOfTransactions::open, "valueAt(?, 14)", MIN, -1, 2, 3, 5, 24, MAX);
    }

    private static void valueAtThrows() {
        Doc.promise(23, "Returns the value of a node at a time");
        Doc.promise(23, "Returns the value.");
        Doc.promise(23, "Throws `IndexOutOfBoundsException` if there is no such node, as time is in range");
        Doc.promise(23, "Throws `IllegalArgumentException` if time is out of range; that goes first here");
        WeftStore x = Ask.nodes(1);
        Check.noNode("it was not there yet", () -> x.valueAt(0, 0));
        Check.eq("it came then", x.valueAt(0, 1), 0);
        Check.badArgument("later than now", () -> x.valueAt(0, 2));
        Check.badArgument("later than now, and no such node", () -> x.valueAt(1, 2));
        Check.badArgument("ahead of 0, and no such node", () -> x.valueAt(-1, -1));
        x.set(0, 8);
        Check.eq("the time ahead of it", x.valueAt(0, 1), 0);
        Check.eq("that time", x.valueAt(0, 2), 8);
        x.dropNode(0);
        Check.eq("the time ahead of it", x.valueAt(0, 2), 8);
        Check.noNode("it went then", () -> x.valueAt(0, 3));
        WeftStore y = new WeftStore();
        Check.noNode("time 0 is in range", () -> y.valueAt(0, 0));
        Check.badArgument("time 1 is not", () -> y.valueAt(0, 1));
    }

    private static void sizeAtArguments() {
        Doc.promise(24, "Returns how many nodes and edges were there at a time");
        Doc.promise(24, "- `time`: 0 to now");
        Doc.promise(24, "Throws `IllegalArgumentException` if time is out of range");
        Ask.range(Ask.ARGUMENT, BoundsOfTransactions::open, "sizeAt(?)", 0, 14);
        Ask.range(Ask.ARGUMENT, WeftStore::new, "sizeAt(?)", 0, 0);
    }

    private static void sizeAtTheBounds() {
        Doc.promise(24, "Returns 100 * the nodes + the edges");
        int[] due = {0, 100, 200, 300, 400, 401, 402, 403, 404, 403, 302, 201, 301, 302, 303};
        WeftStore x = open();
        for (int t = 0; t < due.length; t++) {
            Check.eq("sizeAt(" + t + ")", x.sizeAt(t), due[t]);
        }
        WeftStore y = Ask.nodes(24);
        for (int e = 0; e < 60; e++) {
            y.edge(0, 0, 23);
        }
        Check.eq("all at most", y.sizeAt(84), 2460);
        y.dropNode(23);
        Check.eq("one node and 60 edges went", y.sizeAt(85), 2300);
        Check.eq("they were there", y.sizeAt(84), 2460);
    }
}
