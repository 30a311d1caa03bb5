/** The sentences of "Terms" on transactions: how many, what they see, and how they end. */
final class TermsOfTransactions {
    private TermsOfTransactions() {
    }

    static void run() {
        atMost4AreOpen();
        seesTheGraphAsItWas();
        seesItsOwnWrites();
        seesEdgesWithoutNumbers();
        clashesIfTouchedSince();
        clashesAtEachNodeThatItWouldTouch();
        clashesIfGone();
        ifAKeyWouldBeBroken();
        byAllOfItsWritesTogether();
        ifAShapeWouldBeBroken();
        ifThereWouldBeTooManyEdges();
        allIsWrittenAtOneTime();
        edgesGetTheNextNumbers();
        isOverInAnyCase();
    }

    private static void atMost4AreOpen() {
        Doc.terms("At most 4 transactions are open, with the numbers 0 to 3, the lowest free one being given");
        WeftStore x = new WeftStore();
        for (int t = 0; t < 4; t++) {
            int next = t;
            Check.noNode("not open yet", () -> x.commit(next, true));
            Check.eq("begin()", x.begin(), t);
        }
        Check.notNow("a fifth", () -> x.begin());
        Check.eq("commit", x.commit(3, true), 0);
        Check.eq("commit", x.commit(1, false), 0);
        Check.eq("the lowest of 1 and 3", x.begin(), 1);
        Check.eq("the other", x.begin(), 3);
        Check.notNow("a fifth", () -> x.begin());
        x.commit(0, false);
        Check.eq("the lowest", x.begin(), 0);
    }

    private static void seesTheGraphAsItWas() {
        Doc.terms("A transaction sees the graph as it was when it began");
        WeftStore x = Ask.row(3);
        x.set(1, 50);
        x.begin();
        x.set(1, 60);
        x.set(0, 70);
        x.edge(0, 0, 0);
        x.dropEdge(1);
        x.node(0, 80);
        x.dropNode(2);
        Check.eq("the value written just ahead of it", x.read(0, 1), 50);
        Check.eq("not the one written since", x.read(0, 0), 0);
        Check.eq("not the edge that came since", x.sees(0, 0), 1);
        Check.eq("the edge that went since", x.sees(0, 1), 1);
        Check.eq("the node that went since", x.read(0, 2), 2);
        Check.eq("from which none leads", x.sees(0, 2), 0);
        Check.noNode("not the node that came since", () -> x.read(0, 3));
        x.begin();
        Check.eq("one that begins now", x.read(1, 1), 60);
        Check.eq("sees(1, 0)", x.sees(1, 0), 2);
        Check.eq("sees(1, 1)", x.sees(1, 1), 0);
        Check.noNode("not the node that went ahead of it", () -> x.read(1, 2));
        Check.eq("the node that came ahead of it", x.read(1, 3), 80);
    }

    private static void seesItsOwnWrites() {
        Doc.terms("with its own writes: values that it writes, edges that it adds");
        Doc.terms("and drops.");
        WeftStore x = Ask.row(3);
        x.begin();
        x.begin();
        x.write(0, 0, 40);
        x.write(0, 0, 41);
        x.link(0, 0, 3, 2);
        x.link(0, 0, 3, 2);
        x.unlink(0, 1);
        Check.eq("the last value that it writes", x.read(0, 0), 41);
        Check.eq("both edges that it adds", x.sees(0, 0), 3);
        Check.eq("not the edge that it drops", x.sees(0, 1), 0);
        Check.eq("another one sees none of it", x.read(1, 0), 0);
        Check.eq("nor these", x.sees(1, 0), 1);
        Check.eq("but that", x.sees(1, 1), 1);
        x.commit(0, true);
        Check.eq("nor when it was committed", x.read(1, 0), 0);
        Check.eq("sees(1, 0)", x.sees(1, 0), 1);
        Check.eq("sees(1, 1)", x.sees(1, 1), 1);
    }

    private static void seesEdgesWithoutNumbers() {
        Doc.terms("(which have no numbers yet)");
        WeftStore x = Ask.row(2);
        x.begin();
        x.link(0, 0, 0, 1);
        Check.noNode("unlink(0, 1)", () -> x.unlink(0, 1));
        Check.noNode("dropEdge(1)", () -> x.dropEdge(1));
        Check.eq("edge takes that number", x.edge(1, 0, 1), 1);
        Check.noNode("and it does not see that", () -> x.unlink(0, 1));
    }

    private static void clashesIfTouchedSince() {
        Doc.terms("When it is committed, it clashes if a node that it would touch was touched since it began");
        Doc.terms("then nothing is written.");
        WeftStore x = Ask.row(3);
        x.set(0, 5);
        x.begin();
        x.write(0, 0, 6);
        Check.eq("touched at the time at which it began", x.commit(0, true), 7);
        x.begin();
        x.write(0, 0, 8);
        x.write(0, 2, 8);
        x.link(0, 2, 0, 2);
        x.set(0, 7);
        Check.eq("touched one later", x.commit(0, true), -1);
        Check.eq("no time", x.time(), 8);
        Check.eq("no value", x.valueAt(2, 8), 2);
        Check.eq("no edge", x.sizeAt(8), 302);
        x.begin();
        x.set(0, 7);
        Check.eq("it would touch none", x.commit(0, true), 9);
        x.begin();
        x.read(0, 0);
        x.sees(0, 0);
        x.write(0, 2, 0);
        x.set(0, 7);
        Check.eq("it would touch another one", x.commit(0, true), 11);
    }

    /** Of the nodes 0 to 7 all but the last one would be touched; an edge leads from 3 to 4. */
    private static void clashesAtEachNodeThatItWouldTouch() {
        Doc.terms("a node that it would touch was touched");
        for (int n = 0; n < 8; n++) {
            WeftStore x = Ask.nodes(8);
            x.edge(3, 0, 4);
            x.begin();
            x.write(0, 0, 1);
            x.link(0, 1, 0, 2);
            x.unlink(0, 0);
            x.link(0, 5, 0, 6);
            x.set(n, 90);
            Check.eq("node " + n + " was touched", x.commit(0, true), n < 7 ? -1 : 11);
        }
    }

    private static void clashesIfGone() {
        Doc.terms("or is gone");
        WeftStore x = Ask.nodes(4);
        x.begin();
        x.write(0, 3, 1);
        x.dropNode(3);
        Check.eq("the node of a value", x.commit(0, true), -1);
        x.begin();
        x.link(0, 0, 0, 2);
        x.dropNode(2);
        Check.eq("the node to which an edge leads", x.commit(0, true), -1);
        x.begin();
        x.link(0, 1, 0, 0);
        x.dropNode(1);
        Check.eq("the node from which an edge leads", x.commit(0, true), -1);
        Check.eq("nothing is written", x.sizeAt(x.time()), 100);
        x.edge(0, 0, 0);
        x.begin();
        x.unlink(0, 0);
        x.dropNode(0);
        Check.eq("the node of an edge that it drops", x.commit(0, true), -1);
    }

    private static WeftStore keyed() {
        WeftStore x = new WeftStore();
        x.node(0, 1);
        x.node(0, 2);
        x.node(1, 1);
        x.key(0);
        return x;
    }

    private static void ifAKeyWouldBeBroken() {
        Doc.terms("Otherwise, if a key or shape would be broken");
        Doc.terms("nothing is written, too");
        WeftStore x = keyed();
        x.begin();
        x.write(0, 0, 2);
        x.write(0, 2, 9);
        Check.eq("the same label and value", x.commit(0, true), -2);
        Check.eq("nothing is written", x.valueAt(2, 3), 1);
        Check.eq("time()", x.time(), 3);
        x.begin();
        x.write(0, 0, 3);
        Check.eq("another value", x.commit(0, true), 4);
        x.begin();
        x.write(0, 2, 2);
        Check.eq("another label", x.commit(0, true), 5);
        x.begin();
        x.write(0, 0, 4);
        x.set(1, 4);
        Check.eq("of another one since it began", x.commit(0, true), -2);
        x.begin();
        x.write(0, 0, 4);
        x.key(0);
        Check.eq("the key was taken away", x.commit(0, true), 7);
        x.begin();
        x.write(0, 2, 2);
        x.key(1);
        Check.eq("a key that was told since", x.commit(0, true), 8);
        x.begin();
        x.write(0, 0, 4);
        x.dropNode(1);
        x.key(0);
        Check.eq("the other one went", x.commit(0, true), 10);
    }

    private static void byAllOfItsWritesTogether() {
        Doc.terms("by all of its writes together");
        WeftStore x = keyed();
        x.begin();
        x.write(0, 0, 2);
        x.write(0, 1, 1);
        Check.eq("each alone would break it, not both", x.commit(0, true), 4);
        x.begin();
        x.write(0, 0, 7);
        x.write(0, 1, 7);
        Check.eq("none alone would break it, but both", x.commit(0, true), -2);
        x.begin();
        x.write(0, 0, 1);
        x.write(0, 0, 8);
        Check.eq("the last value of each node counts", x.commit(0, true), 5);
    }

    private static void ifAShapeWouldBeBroken() {
        Doc.terms("a key or shape would be broken by all of its writes");
        WeftStore x = keyed();
        x.shape(0, 0, 1);
        x.begin();
        x.link(0, 0, 0, 2);
        x.link(0, 2, 1, 0);
        Check.eq("all are so", x.commit(0, true), 4);
        x.begin();
        x.link(0, 0, 0, 2);
        x.link(0, 2, 0, 0);
        x.write(0, 0, 9);
        Check.eq("the second is not", x.commit(0, true), -2);
        Check.eq("nothing is written", x.valueAt(0, 4), 1);
        Check.eq("nor the first", x.sizeAt(4), 302);
        x.begin();
        x.link(0, 0, 0, 1);
        x.link(0, 0, 0, 2);
        Check.eq("the first is not", x.commit(0, true), -2);
        x.begin();
        x.link(0, 2, 0, 0);
        x.shape(0, -1, 0);
        Check.eq("the shape was taken away", x.commit(0, true), 5);
        x.begin();
        x.link(0, 1, 3, 0);
        x.shape(3, 0, 1);
        Check.eq("a shape that was told since", x.commit(0, true), -2);
    }

    private static void ifThereWouldBeTooManyEdges() {
        Doc.terms("or there would be too many edges");
        WeftStore x = Ask.nodes(1);
        for (int e = 0; e < 53; e++) {
            x.edge(0, 0, 0);
        }
        x.begin();
        for (int i = 0; i < 8; i++) {
            x.link(0, 0, 0, 0);
        }
        x.unlink(0, 0);
        Check.eq("61 in all, though 60 would be there", x.commit(0, true), -2);
        Check.eq("nothing is written", x.sizeAt(54), 153);
        x.begin();
        for (int i = 0; i < 7; i++) {
            x.link(0, 0, 0, 0);
        }
        Check.eq("60 in all", x.commit(0, true), 55);
        Check.eq("sizeAt(55)", x.sizeAt(55), 160);
        x.begin();
        x.link(0, 0, 0, 0);
        Check.eq("61 in all", x.commit(0, true), -2);
        x.begin();
        x.unlink(0, 59);
        Check.eq("none more", x.commit(0, true), 56);
    }

    private static void allIsWrittenAtOneTime() {
        Doc.terms("Otherwise all is written at one time");
        WeftStore x = Ask.row(3);
        x.begin();
        x.write(0, 0, 30);
        x.write(0, 2, 32);
        x.link(0, 0, 0, 0);
        x.link(0, 1, 0, 1);
        x.link(0, 2, 0, 2);
        x.unlink(0, 0);
        Check.eq("commit", x.commit(0, true), 6);
        Check.eq("time()", x.time(), 6);
        Check.eq("valueAt(0, 5)", x.valueAt(0, 5), 0);
        Check.eq("valueAt(0, 6)", x.valueAt(0, 6), 30);
        Check.eq("valueAt(2, 5)", x.valueAt(2, 5), 2);
        Check.eq("valueAt(2, 6)", x.valueAt(2, 6), 32);
        Check.eq("sizeAt(5)", x.sizeAt(5), 302);
        Check.eq("sizeAt(6)", x.sizeAt(6), 304);
        Check.eq("the edge that it drops", x.reasons(0, 0, 1), 0);
    }

    private static void edgesGetTheNextNumbers() {
        Doc.terms("its edges getting the next numbers in their order");
        WeftStore x = Ask.row(2);
        x.begin();
        x.link(0, 0, 3, 1);
        x.link(0, 1, 2, 0);
        x.link(0, 0, 1, 0);
        Check.eq("an edge that comes ahead of the commit", x.edge(1, 0, 1), 1);
        Check.eq("a clash", x.commit(0, true), -1);
        x.begin();
        x.link(0, 0, 3, 1);
        x.link(0, 1, 2, 0);
        x.link(0, 0, 1, 0);
        x.commit(0, true);
        Check.eq("the next one behind them", x.edge(0, 0, 1), 5);
        x.dropEdge(2);
        Check.eq("the first was 2", x.reasons(0, 3, 1), 0);
        x.dropEdge(3);
        Check.eq("the second was 3", x.reasons(1, 2, 0), 0);
        Check.eq("the third is there", x.reasons(0, 1, 0), 1);
        x.dropEdge(4);
        Check.eq("the third was 4", x.reasons(0, 1, 0), 0);
    }

    private static void isOverInAnyCase() {
        Doc.terms("It is over in any case");
        WeftStore x = keyed();
        x.begin();
        x.write(0, 0, 5);
        Check.eq("written", x.commit(0, true), 4);
        Check.noNode("read", () -> x.read(0, 0));
        x.begin();
        x.write(0, 0, 2);
        Check.eq("broken", x.commit(0, true), -2);
        Check.noNode("write", () -> x.write(0, 0, 3));
        x.begin();
        x.write(0, 0, 3);
        x.set(0, 4);
        Check.eq("a clash", x.commit(0, true), -1);
        Check.noNode("commit", () -> x.commit(0, true));
        x.begin();
        x.write(0, 0, 3);
        Check.eq("ended without", x.commit(0, false), 5);
        Check.noNode("sees", () -> x.sees(0, 0));
        Check.eq("its number is free", x.begin(), 0);
        Check.eq("none of its writes is left", x.read(0, 0), 4);
        Check.eq("commit", x.commit(0, true), 5);
    }
}
