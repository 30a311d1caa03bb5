import java.util.function.Consumer;

/** The sentences of "Terms" on nodes, edges, time, keys and shapes, on both sides of each boundary. */
final class TermsOfGraph {
    private static final int MIN = Integer.MIN_VALUE;
    private static final int MAX = Integer.MAX_VALUE;
    private static final Consumer<WeftStore> NOTHING = x -> { };

    private TermsOfGraph() {
    }

    static void run() {
        usedFor512Calls();
        usedFor512CallsOfTransactions();
        nodesAtMost24InAll();
        nodesHaveLabelsValuesMachines();
        edgesAtMost60InAll();
        edgesLeadFromNodesToNodes();
        thereUntilDropped();
        withANodeAllItsEdgesGo();
        eachWriteMakesItOneMore();
        allElseIsNoWrite();
        committedWithWrites();
        soFromThatTimeOn();
        touchedByNodes();
        touchedByValues();
        touchedByEdges();
        touchedByNothingElse();
        keysOfNodesThatAreThere();
        shapesFromOneLabelToAnother();
        toldOnlyIfAllIsSo();
        writesThatWouldBreakOne();
    }

    private static void usedFor512Calls() {
        Doc.terms("An object is used for at most 512 calls after it has been made; what later calls answer is free");
        WeftStore x = new WeftStore();
        x.node(0, 0);
        WeftStore y = new WeftStore();
        y.node(0, 0);
        for (int i = 1; i <= 510; i++) {
            Check.eq("set(0, " + i + ")", x.set(0, i), i - 1);
            y.set(0, i);
        }
        Check.eq("the 512th call: the value before", x.set(0, 9), 510);
        Check.eq("the 512th call: the first value of all", y.valueAt(0, 1), 0);
        WeftStore z = new WeftStore();
        z.node(0, 0);
        for (int i = 1; i <= 510; i++) {
            z.set(0, i);
        }
        Check.eq("the 512th call: the last value of all", z.valueAt(0, 511), 510);
        String[] later = {"set(0, 1)", "valueAt(0, 1)", "valueAt(0, 513)", "time()", "sizeAt(512)", "node(0, 0)",
            "edge(0, 0, 0)", "begin()", "dropNode(0)", "answer(0, 0)"};
        for (String call : later) {
            String got = Ask.on(x, call);
            boolean isFree = !got.startsWith("throws ") || got.equals(Ask.INDEX) || got.equals(Ask.ARGUMENT)
                    || got.equals(Ask.STATE);
            Check.is("behind the 512th call " + call + " throws nothing of the machine's, not " + got, isFree, true);
        }
    }

    private static void usedFor512CallsOfTransactions() {
        WeftStore x = Ask.nodes(2);
        for (int i = 1; i <= 127; i++) {
            Check.eq("begin()", x.begin(), 0);
            x.write(0, 0, i);
            x.write(0, 1, -i);
            Check.eq("commit", x.commit(0, true), 2 + i);
        }
        Check.eq("the 511th call", x.valueAt(0, 3), 1);
        Check.eq("the 512th call", x.valueAt(1, 129), -127);
    }

    private static void nodesAtMost24InAll() {
        Doc.terms("Nodes are numbered from 0, at most 24 in all");
        WeftStore x = new WeftStore();
        for (int n = 0; n < 24; n++) {
            Check.eq("node", x.node(0, n), n);
        }
        Check.notNow("the 25th", () -> x.node(0, 0));
        x.dropNode(3);
        Check.notNow("the 25th, though 23 are there", () -> x.node(0, 0));
        WeftStore y = Ask.nodes(23);
        y.dropNode(0);
        Check.eq("the 24th, though 22 are there", y.node(0, 0), 23);
        Check.notNow("the 25th, though 23 are there", () -> y.node(0, 0));
    }

    private static void nodesHaveLabelsValuesMachines() {
        Doc.terms("a node has a label, 0 to 3, a value, any int, and a machine, 0 to 2");
        WeftStore x = new WeftStore();
        int[] values = {MIN, -1, 0, MAX};
        for (int l = 0; l < 4; l++) {
            Check.eq("node", x.node(l, values[l]), l);
            Check.eq("valueAt", x.valueAt(l, l + 1), values[l]);
            Check.eq("machine", x.machine(l), l % 3);
            x.step(WeftStore.NODE, l);
            Check.eq("pattern()", x.pattern(), l);
        }
        for (int n = 0; n < 4; n++) {
            for (int l = 0; l < 4; l++) {
                Check.eq("node " + n + " has the label " + l, x.answer(l, n), n == l ? 1 << n : 0);
            }
        }
        Check.noNode("a label below", () -> x.node(-1, 0));
        Check.noNode("a label above", () -> x.node(4, 0));
        Check.eq("move(0, 2)", x.move(0, 2), 0);
        Check.eq("move(0, 0)", x.move(0, 0), 2);
        Check.noNode("a machine below", () -> x.move(0, -1));
        Check.noNode("a machine above", () -> x.move(0, 3));
    }

    private static void edgesAtMost60InAll() {
        Doc.terms("Edges are numbered from 0, at most 60 in all");
        WeftStore x = Ask.nodes(2);
        for (int e = 0; e < 60; e++) {
            Check.eq("edge", x.edge(e % 2, e % 4, 0), e);
        }
        Check.notNow("the 61st", () -> x.edge(0, 0, 1));
        x.dropEdge(0);
        x.dropNode(1);
        Check.notNow("the 61st, though 29 are there", () -> x.edge(0, 0, 0));
        WeftStore y = Ask.nodes(2);
        for (int e = 0; e < 59; e++) {
            y.edge(0, 0, 1);
        }
        y.dropEdge(7);
        Check.eq("the 60th, though 58 are there", y.edge(0, 0, 1), 59);
        Check.notNow("the 61st, though 59 are there", () -> y.edge(0, 0, 1));
    }

    private static void edgesLeadFromNodesToNodes() {
        Doc.terms("an edge leads from a node to a node, perhaps the same one, and has a label, 0 to 3");
        WeftStore x = Ask.nodes(2);
        Check.eq("edge(0, 0, 1)", x.edge(0, 0, 1), 0);
        Check.eq("forth", x.walk(0, 1), 3);
        Check.eq("not back", x.walk(1, 1), 2);
        Check.eq("to the same one", x.edge(1, 3, 1), 1);
        Check.eq("it leads to itself", x.walk(1, 1), 2);
        x.begin();
        Check.eq("it leads from it once", x.sees(0, 1), 1);
        Check.eq("it is not cut", x.cut(), 1);
        Check.eq("no copy of itself", x.copies(1), 1);
        Check.eq("it goes once", x.dropNode(1), 2);
        WeftStore y = Ask.nodes(2);
        for (int l = 0; l < 4; l++) {
            y.edge(0, l, 1);
            for (int other = 0; other < 4; other++) {
                Check.eq("edges with the label " + other, y.reasons(0, other, 1), other <= l ? 1 : 0);
            }
        }
        Check.noNode("a label below", () -> y.edge(0, -1, 1));
        Check.noNode("a label above", () -> y.edge(0, 4, 1));
    }

    private static void thereUntilDropped() {
        Doc.terms("Nodes and edges are there until they are dropped");
        WeftStore x = Ask.nodes(2);
        x.edge(0, 0, 1);
        for (int i = 0; i < 20; i++) {
            x.set(1, i);
        }
        Check.eq("still there", x.sizeAt(23), 201);
        Check.eq("dropEdge(0)", x.dropEdge(0), 24);
        Check.eq("there until then", x.sizeAt(23), 201);
        Check.eq("not from then on", x.sizeAt(24), 200);
        Check.eq("dropNode(0)", x.dropNode(0), 0);
        Check.eq("there until then", x.valueAt(0, 24), 0);
        Check.noNode("not from then on", () -> x.valueAt(0, 25));
        Check.eq("sizeAt(24)", x.sizeAt(24), 200);
        Check.eq("sizeAt(25)", x.sizeAt(25), 100);
    }

    private static void withANodeAllItsEdgesGo() {
        Doc.terms("with a node all its edges go");
        WeftStore x = Ask.nodes(3);
        x.edge(0, 0, 1);
        x.edge(1, 1, 0);
        x.edge(1, 2, 1);
        x.edge(0, 3, 2);
        x.edge(2, 0, 2);
        Check.eq("those from it, to it, and both", x.dropNode(1), 3);
        for (int e = 0; e < 3; e++) {
            int edge = e;
            Check.noNode("edge " + e + " went", () -> x.dropEdge(edge));
        }
        Check.eq("all others stay", x.sizeAt(x.time()), 202);
        Check.eq("dropEdge(3)", x.dropEdge(3), 10);
        Check.eq("dropEdge(4)", x.dropEdge(4), 11);
    }

    private static void eachWriteMakesItOneMore() {
        Doc.terms("Time is 0 at first; each write (of nodes, edges and values, also if the value is the same;");
        WeftStore x = new WeftStore();
        Check.eq("at first", x.time(), 0);
        String[] writes = {"node(0, 5)", "node(1, 5)", "edge(0, 0, 1)", "edge(0, 0, 1)", "edge(1, 2, 1)", "set(0, 6)",
            "set(0, 6)", "dropEdge(0)", "dropNode(1)", "dropNode(0)"};
        for (int i = 0; i < writes.length; i++) {
            String got = Ask.on(x, writes[i]);
            Check.is(writes[i] + " is answered, not " + got, got.startsWith("throws "), false);
            Check.eq("time() behind " + writes[i], x.time(), i + 1);
        }
    }

    private static void allElseIsNoWrite() {
        Doc.terms("keys, shapes and all else are none)");
        WeftStore x = Ask.row(4);
        String[] others = {"key(0)", "key(0)", "shape(0, 0, 0)", "shape(0, -1, 0)", "move(3, 2)", "shift()", "toggle(2)",
            "toggle(2)", "machine(0)", "cut()", "copies(0)", "begin()", "begin()", "begin()", "write(0, 0, 1)",
            "link(0, 0, 0, 0)", "unlink(0, 0)", "read(0, 0)", "sees(0, 0)", "commit(0, false)", "commit(1, true)",
            "time()", "valueAt(0, 7)", "sizeAt(7)", "step(0, 0)", "pattern()", "answer(0, 0)", "answerAnew(0, 0)",
            "pairs(0)", "isWhole(0, 0)", "rule(0, 0, 1)", "inferred()", "reasons(0, 0, 1)", "dropRule(0)",
            "walk(0, 3)", "crossings(0, 3)", "round(1)", "mark(0)", "least(3)"};
        for (String call : others) {
            String got = Ask.on(x, call);
            Check.is(call + " is answered, not " + got, got.startsWith("throws "), false);
            Check.eq("time() behind " + call, x.time(), 7);
        }
    }

    private static void committedWithWrites() {
        Doc.terms("and each transaction that is committed with writes, makes it 1 more");
        WeftStore x = Ask.row(3);
        x.begin();
        Check.eq("without writes", x.commit(0, true), 5);
        x.begin();
        x.write(0, 0, 0);
        Check.eq("with the same value", x.commit(0, true), 6);
        x.begin();
        x.link(0, 0, 0, 0);
        Check.eq("with an edge that it adds", x.commit(0, true), 7);
        x.begin();
        x.unlink(0, 0);
        Check.eq("with an edge that it drops", x.commit(0, true), 8);
        x.begin();
        x.write(0, 0, 1);
        x.write(0, 1, 1);
        x.link(0, 0, 0, 1);
        x.unlink(0, 1);
        Check.eq("with many writes, 1 more alone", x.commit(0, true), 9);
        x.begin();
        x.write(0, 0, 1);
        Check.eq("ended without", x.commit(0, false), 9);
        Check.eq("time()", x.time(), 9);
    }

    private static void soFromThatTimeOn() {
        Doc.terms("and what is written is so from that time on. So the nodes, values and edges at each time are known");
        WeftStore x = new WeftStore();
        x.node(0, 10);
        x.node(1, 20);
        x.edge(0, 0, 1);
        x.set(0, 11);
        x.begin();
        x.write(0, 1, 21);
        x.link(0, 1, 0, 0);
        x.commit(0, true);
        x.dropEdge(0);
        x.dropNode(1);
        int[] sizes = {0, 100, 200, 201, 201, 202, 201, 100};
        int[] firsts = {0, 10, 10, 10, 11, 11, 11, 11};
        int[] seconds = {0, 0, 20, 20, 20, 21, 21, 0};
        for (int t = 0; t < sizes.length; t++) {
            int then = t;
            Check.eq("sizeAt(" + t + ")", x.sizeAt(t), sizes[t]);
            if (t >= 1) {
                Check.eq("valueAt(0, " + t + ")", x.valueAt(0, t), firsts[t]);
            }
            if (t >= 2 && t <= 6) {
                Check.eq("valueAt(1, " + t + ")", x.valueAt(1, t), seconds[t]);
            } else {
                Check.noNode("valueAt(1, " + t + ")", () -> x.valueAt(1, then));
            }
        }
        Check.noNode("valueAt(0, 0)", () -> x.valueAt(0, 0));
    }

    /** Whether a transaction that writes the node clashes, with writes of others ahead of its begin and since then. */
    private static boolean clashes(int node, Consumer<WeftStore> ahead, Consumer<WeftStore> since) {
        WeftStore x = Ask.row(5);
        x.dropEdge(3);
        ahead.accept(x);
        int transaction = x.begin();
        since.accept(x);
        x.write(transaction, node, 77);
        return x.commit(transaction, true) == -1;
    }

    /** Of the nodes 0 to 4, with edges from 0 to 1, 1 to 2, and 2 to 3, those that are given are touched. */
    private static void touches(String what, Consumer<WeftStore> writes, int... touched) {
        for (int n = 0; n < 5; n++) {
            boolean isTouched = false;
            for (int t : touched) {
                isTouched = isTouched || t == n;
            }
            Check.is(what + " since it began: node " + n + " is touched", clashes(n, NOTHING, writes), isTouched);
        }
    }

    private static void isNoClashAhead(String what, Consumer<WeftStore> writes, int... nodes) {
        for (int n : nodes) {
            Check.is(what + " ahead of its begin: a clash at node " + n, clashes(n, writes, NOTHING), false);
        }
    }

    private static void touchedByNodes() {
        Doc.terms("A node is touched at a time if it comes or goes then");
        touches("a node goes", x -> x.dropNode(4), 4);
        touches("a node comes", x -> x.node(0, 5));
        WeftStore x = new WeftStore();
        x.node(0, 0);
        x.begin();
        x.write(0, 0, 1);
        Check.eq("it came at the very time at which it began", x.commit(0, true), 2);
    }

    private static void touchedByValues() {
        Doc.terms("its value is written");
        touches("a value is written", x -> x.set(1, 50), 1);
        touches("the same value is written", x -> x.set(1, 1), 1);
        touches("a value is written back", x -> {
            x.set(4, 50);
            x.set(4, 4);
        }, 4);
        touches("a value is committed", x -> {
            int t = x.begin();
            x.write(t, 2, 2);
            x.commit(t, true);
        }, 2);
        isNoClashAhead("a value is written", x -> x.set(1, 50), 0, 1, 2, 3, 4);
    }

    private static void touchedByEdges() {
        Doc.terms("or an edge comes or goes at it");
        touches("an edge comes", x -> x.edge(0, 3, 4), 0, 4);
        touches("an edge to the same node comes", x -> x.edge(2, 0, 2), 2);
        touches("an edge goes", x -> x.dropEdge(1), 1, 2);
        touches("edges go with a node", x -> x.dropNode(1), 0, 1, 2);
        touches("an edge comes and goes", x -> x.dropEdge(x.edge(4, 0, 3)), 3, 4);
        touches("edges are committed", x -> {
            int t = x.begin();
            x.link(t, 4, 0, 0);
            x.unlink(t, 2);
            x.commit(t, true);
        }, 0, 2, 3, 4);
        isNoClashAhead("an edge comes", x -> x.edge(0, 3, 4), 0, 1, 2, 3, 4);
        isNoClashAhead("an edge goes", x -> x.dropEdge(1), 0, 1, 2, 3, 4);
        isNoClashAhead("edges go with a node", x -> x.dropNode(1), 0, 2, 3, 4);
    }

    private static void touchedByNothingElse() {
        touches("keys, shapes and machines", x -> {
            x.key(0);
            x.shape(0, 0, 0);
            x.move(4, 0);
            x.shift();
            x.toggle(0);
        });
        touches("rules and rounds", x -> {
            x.rule(0, 0, 0);
            x.round(30);
            x.dropRule(0);
        });
        touches("a transaction that is not committed", x -> {
            int t = x.begin();
            x.read(t, 0);
            x.write(t, 1, 9);
            x.link(t, 2, 0, 3);
            x.commit(t, false);
        });
    }

    private static void keysOfNodesThatAreThere() {
        Doc.terms("A label of nodes can have a key: then no two nodes of it that are there have the same value");
        WeftStore x = new WeftStore();
        x.node(0, 5);
        x.key(0);
        x.key(3);
        Check.notNow("the same label and value", () -> x.node(0, 5));
        Check.eq("one less", x.node(0, 4), 1);
        Check.eq("one more", x.node(0, 6), 2);
        Check.eq("another label without a key", x.node(1, 5), 3);
        Check.eq("and again", x.node(1, 5), 4);
        Check.eq("another label with a key", x.node(3, 5), 5);
        Check.notNow("and again", () -> x.node(3, 5));
        x.dropNode(0);
        Check.eq("it went", x.node(0, 5), 6);
        x.set(6, 7);
        Check.eq("it has another value by now", x.node(0, 5), 7);
        Check.notNow("both are taken", () -> x.node(0, 7));
    }

    private static void shapesFromOneLabelToAnother() {
        Doc.terms("A label of edges can have a shape: its edges lead from nodes of one label to nodes of another one");
        Doc.terms("(or the same)");
        for (int to = 2; to <= 3; to++) {
            WeftStore x = new WeftStore();
            for (int l = 0; l < 4; l++) {
                x.node(l, 0);
            }
            x.shape(1, 2, to);
            for (int n = 0; n < 16; n++) {
                String ends = n / 4 + ", 1, " + n % 4;
                boolean isSo = n / 4 == 2 && n % 4 == to;
                Check.is("edge(" + ends + ") is possible", Ask.on(x, "edge(" + ends + ")").equals(Ask.STATE), !isSo);
            }
            Check.eq("other labels have none", x.edge(0, 0, 3), 1);
            Check.eq("edge(3, 2, 0)", x.edge(3, 2, 0), 2);
        }
    }

    private static void toldOnlyIfAllIsSo() {
        Doc.terms("A key or shape can only be told if all is so already");
        WeftStore x = new WeftStore();
        x.node(0, 5);
        x.node(0, 6);
        x.node(0, 5);
        x.node(1, 6);
        Check.notNow("two have the same value", () -> x.key(0));
        Check.eq("so it has no key", x.node(0, 5), 4);
        x.set(0, 4);
        Check.notNow("two of others", () -> x.key(0));
        x.dropNode(4);
        Check.is("one of them went", x.key(0), true);
        WeftStore y = new WeftStore();
        y.node(0, 0);
        y.node(1, 0);
        y.edge(0, 2, 1);
        y.edge(0, 2, 0);
        y.edge(1, 3, 0);
        Check.notNow("one is not so", () -> y.shape(2, 0, 1));
        Check.eq("so it has no shape", y.edge(1, 2, 1), 3);
        y.dropEdge(1);
        Check.notNow("another one is not so", () -> y.shape(2, 0, 1));
        y.dropEdge(3);
        y.shape(2, 0, 1);
        Check.notNow("it has a shape by now", () -> y.edge(0, 2, 0));
    }

    private static void writesThatWouldBreakOne() {
        Doc.terms("writes that would break one are not possible");
        WeftStore x = new WeftStore();
        x.node(0, 1);
        x.node(0, 2);
        x.key(0);
        x.shape(0, 0, 0);
        x.node(1, 1);
        Check.notNow("node", () -> x.node(0, 2));
        Check.notNow("set", () -> x.set(0, 2));
        Check.notNow("edge", () -> x.edge(0, 0, 2));
        Check.eq("set, its own", x.set(0, 1), 1);
        x.begin();
        x.write(0, 0, 2);
        Check.eq("commit", x.commit(0, true), -2);
        x.begin();
        x.link(0, 2, 0, 0);
        Check.eq("commit", x.commit(0, true), -2);
        Check.eq("nothing was written", x.time(), 4);
    }
}
