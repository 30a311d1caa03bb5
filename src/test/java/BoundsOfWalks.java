/** Promises 35 to 39, line by line: walks and rounds. */
final class BoundsOfWalks {
    private static final int MIN = Integer.MIN_VALUE;
    private static final int MAX = Integer.MAX_VALUE;

    private BoundsOfWalks() {
    }

    static void run() {
        nodeArguments();
        stepsArguments();
        walkAnswersTheNodes();
        walkAnswersNoneIfNotUp();
        crossingsAnswersHowOften();
        crossingsToMachinesThatAreNotUp();
        roundArguments();
        roundAnswersHowManyAreAwake();
        markAnswersTheMark();
        leastAnswersTheLowest();
    }

    /** Nodes 0, 1 and 3 are there, node 2 went; edges lead from 0 to 1 and from 3 to 3. */
    private static WeftStore gaps() {
        WeftStore x = Ask.nodes(4);
        x.edge(0, 0, 1);
        x.edge(3, 0, 3);
        x.edge(1, 0, 2);
        x.dropNode(2);
        return x;
    }

    private static void nodeArguments() {
        for (int p : new int[] {35, 36, 38, 39}) {
            Doc.promise(p, "- `node`: a node");
            Doc.promise(p, "Throws `IndexOutOfBoundsException` if there is no such node");
        }
        for (String call : new String[] {"walk(?, 1)", "crossings(?, 1)", "mark(?)", "least(?)", "walk(?, 0)"}) {
            Ask.right(BoundsOfWalks::gaps, call, 0, 1, 3);
            Ask.wrong(Ask.INDEX, BoundsOfWalks::gaps, call, MIN, -1, 2, 4, 24, 32, MAX);
        }
        for (String call : new String[] {"walk(?, 31)", "walk(?, -1)", "crossings(?, 31)", "crossings(?, -1)"}) {
            Ask.wrong(Ask.INDEX, BoundsOfWalks::gaps, call, -1, 2, 4);
        }
    }

    private static void stepsArguments() {
        for (int p : new int[] {35, 36}) {
            Doc.promise(p, "- `steps`: 0 to 30");
            Doc.promise(p, "Throws `IllegalArgumentException` if steps is out of range");
        }
        for (int n : new int[] {0, 1, 3}) {
            Ask.range(Ask.ARGUMENT, BoundsOfWalks::gaps, "walk(" + n + ", ?)", 0, 30);
            Ask.range(Ask.ARGUMENT, BoundsOfWalks::gaps, "crossings(" + n + ", ?)", 0, 30);
        }
        WeftStore x = gaps();
        x.toggle(0);
        Check.badArgument("also if it is not up", () -> x.walk(0, 31));
        Check.badArgument("also if it is not up", () -> x.crossings(0, -1));
    }

    private static void walkAnswersTheNodes() {
        Doc.promise(35, "Returns the nodes to which a walk comes");
        Doc.promise(35, "Returns the nodes, the first one too, as a set");
        WeftStore x = Ask.row(24);
        for (int n = 0; n < 24; n++) {
            int one = n < 23 ? 3 << n : 1 << n;
            Check.eq("no steps", x.walk(n, 0), 1 << n);
            Check.eq("one step", x.walk(n, 1), one);
            Check.eq("30 steps", x.walk(n, 30), 0xffffff << n & 0xffffff);
        }
        x.edge(23, 0, 0);
        Check.eq("not all around", x.walk(5, 22), 0xffffff & ~(1 << 4));
        Check.eq("all around", x.walk(5, 23), 0xffffff);
    }

    private static void walkAnswersNoneIfNotUp() {
        Doc.promise(35, "0 if its machine is not up");
        WeftStore x = Ask.row(6);
        x.toggle(0);
        Check.eq("no steps", x.walk(0, 0), 0);
        Check.eq("30 steps", x.walk(0, 30), 0);
        Check.eq("not to those of machine 0", x.walk(1, 30), 6);
        Check.eq("those of others are up", x.walk(4, 30), 48);
        x.toggle(0);
        Check.eq("up again", x.walk(0, 30), 63);
    }

    private static void crossingsAnswersHowOften() {
        Doc.promise(36, "Returns how often a walk crosses machines");
        WeftStore x = Ask.nodes(4);
        x.edge(0, 0, 3);
        x.edge(3, 0, 1);
        x.edge(3, 1, 1);
        x.edge(1, 0, 0);
        x.edge(2, 0, 0);
        int[] due = {0, 0, 2, 3, 3};
        for (int s = 0; s < due.length; s++) {
            Check.eq("crossings(0, " + s + ")", x.crossings(0, s), due[s]);
        }
        Check.eq("crossings(0, 30)", x.crossings(0, 30), 3);
        Check.eq("crossings(2, 1)", x.crossings(2, 1), 1);
        WeftStore y = Ask.nodes(2);
        for (int e = 0; e < 60; e++) {
            y.edge(0, 0, 1);
        }
        Check.eq("60 edges", y.crossings(0, 1), 60);
        Check.eq("none with no steps", y.crossings(0, 0), 0);
        Check.eq("none back", y.crossings(1, 30), 0);
    }

    private static void crossingsToMachinesThatAreNotUp() {
        Doc.promise(36, "Returns how often; edges to nodes of machines that are not up count, too");
        WeftStore x = Ask.row(4);
        x.edge(0, 0, 2);
        Check.eq("all are up", x.crossings(0, 30), 4);
        x.toggle(1);
        Check.eq("to 1, and to 2 and on", x.crossings(0, 30), 3);
        Check.eq("to 1 and 2", x.crossings(0, 1), 2);
        Check.eq("no walk begins at 1", x.crossings(1, 30), 0);
        x.toggle(2);
        Check.eq("to 1 and 2, and not on", x.crossings(0, 30), 2);
    }

    private static void roundArguments() {
        Doc.promise(37, "Does rounds");
        Doc.promise(37, "- `rounds`: 1 to 30");
        Doc.promise(37, "Throws `IllegalArgumentException` if rounds is out of range");
        Ask.range(Ask.ARGUMENT, BoundsOfWalks::gaps, "round(?)", 1, 30);
        Ask.range(Ask.ARGUMENT, WeftStore::new, "round(?)", 1, 30);
        for (int r = 1; r <= 30; r++) {
            WeftStore x = Ask.row(24);
            x.round(r);
            Check.eq("so many rounds", x.mark(23), Math.max(0, 23 - r));
        }
    }

    private static void roundAnswersHowManyAreAwake() {
        Doc.promise(37, "Returns how many nodes are awake then");
        for (int r = 1; r <= 30; r++) {
            Check.eq("behind " + r, Ask.row(24).round(r), Math.max(0, 24 - r));
        }
        WeftStore x = Ask.row(24);
        for (int r = 1; r <= 30; r++) {
            Check.eq("one by one, behind " + r, x.round(1), Math.max(0, 24 - r));
        }
        Check.eq("no nodes", new WeftStore().round(30), 0);
        for (int n = 1; n <= 24; n++) {
            Check.eq("no edges", Ask.nodes(n).round(1), 0);
        }
        WeftStore y = Ask.nodes(24);
        for (int n = 1; n < 24; n++) {
            y.edge(n % 2 == 0 ? n : 0, 0, n % 2 == 0 ? 0 : n);
        }
        Check.eq("all but one at once", y.round(1), 23);
        Check.eq("none is left", y.round(1), 0);
    }

    private static void markAnswersTheMark() {
        Doc.promise(38, "Returns the mark of a node");
        Doc.promise(38, "Returns the mark.");
        WeftStore x = gaps();
        Check.eq("mark(3)", x.mark(3), 3);
        x.round(1);
        Check.eq("mark(1)", x.mark(1), 0);
        Check.eq("mark(3)", x.mark(3), 3);
        Check.eq("node", x.node(0, 0), 4);
        Check.eq("mark(4)", x.mark(4), 4);
        x.dropNode(4);
        Check.noNode("it went", () -> x.mark(4));
        Check.eq("as at first", x.mark(1), 1);
    }

    private static void leastAnswersTheLowest() {
        Doc.promise(39, "Returns the lowest node to which there is a way along told edges, either way, from a node");
        Doc.promise(39, "found from nothing");
        Doc.promise(39, "Returns the lowest node, perhaps itself");
        WeftStore x = Ask.row(24);
        for (int n = 0; n < 24; n++) {
            Check.eq("against the edges", x.least(n), 0);
        }
        x.round(1);
        Check.eq("whatever its mark is", x.least(23), 0);
        x.dropEdge(11);
        Check.eq("itself", x.least(12), 12);
        Check.eq("not past the gap", x.least(23), 12);
        Check.eq("on this side", x.least(11), 0);
        x.edge(23, 0, 5);
        Check.eq("forth and then back", x.least(12), 0);
        x.toggle(0);
        x.toggle(1);
        x.toggle(2);
        Check.eq("whatever machines are up", x.least(12), 0);
        WeftStore y = Ask.nodes(3);
        y.edge(1, 0, 2);
        y.edge(2, 0, 1);
        y.rule(0, 0, 1);
        y.edge(0, 3, 0);
        Check.eq("0 is alone", y.least(2), 1);
        Check.eq("itself", y.least(0), 0);
    }
}
