/** Promises 9 to 14, line by line: what arguments are right, what is answered, and when it throws what. */
final class BoundsOfMachines {
    private static final int MIN = Integer.MIN_VALUE;
    private static final int MAX = Integer.MAX_VALUE;

    private BoundsOfMachines() {
    }

    static void run() {
        moveArguments();
        moveAnswersTheMachineBefore();
        moveThrowsIfNotUp();
        shiftAnswersTheNode();
        toggleArguments();
        machineArguments();
        cutAnswersHowMany();
        copiesArguments();
    }

    /** Nodes 0, 1 and 3 are there, on the machines 0, 1 and 0; node 2 went. */
    private static WeftStore gaps() {
        WeftStore x = Ask.nodes(4);
        x.dropNode(2);
        return x;
    }

    private static void moveArguments() {
        Doc.promise(9, "- `node`: a node");
        Doc.promise(9, "- `machine`: 0 to 2");
        Doc.promise(9, "Throws `IndexOutOfBoundsException` if there is no such node or machine");
        Ask.right(BoundsOfMachines::gaps, "move(?, 2)", 0, 1, 3);
        Ask.wrong(Ask.INDEX, BoundsOfMachines::gaps, "move(?, 2)", MIN, -1, 2, 4, 24, MAX);
        Ask.range(Ask.INDEX, BoundsOfMachines::gaps, "move(0, ?)", 0, 2);
    }

    private static void moveAnswersTheMachineBefore() {
        Doc.promise(9, "Moves a node to a machine");
        Doc.promise(9, "Returns the machine before");
        WeftStore x = gaps();
        int before = 0;
        for (int m : new int[] {2, 1, 1, 0, 0, 2}) {
            Check.eq("the machine before", x.move(3, m), before);
            Check.eq("the machine then", x.machine(3), m);
            before = m;
        }
        Check.eq("another node stays", x.machine(0), 0);
    }

    private static void moveThrowsIfNotUp() {
        Doc.promise(9, "Throws `IllegalStateException` if one of both machines is not up");
        for (int m = 0; m < 3; m++) {
            WeftStore x = Ask.nodes(3);
            x.toggle(m);
            for (int n = 0; n < 9; n++) {
                String call = "move(" + n / 3 + ", " + n % 3 + ")";
                boolean areUp = n / 3 != m && n % 3 != m;
                Check.same(call + ", " + m + " is not up", Ask.on(x, call), areUp ? String.valueOf(n / 3) : Ask.STATE);
                Ask.on(x, "move(" + n / 3 + ", " + n / 3 + ")");
            }
            x.toggle(m);
            Check.eq("all are up", x.move(m, (m + 1) % 3), m);
        }
    }

    private static void shiftAnswersTheNode() {
        Doc.promise(10, "Shifts a node, so that fewer edges are cut");
        Doc.promise(10, "Returns the node; -1 if none is shifted");
        WeftStore x = new WeftStore();
        Check.eq("no nodes", x.shift(), -1);
        for (int n = 0; n < 3; n++) {
            x.node(0, 0);
        }
        Check.eq("no edges", x.shift(), -1);
        x.edge(2, 0, 1);
        Check.eq("the node", x.shift(), 1);
        Check.eq("machine(1)", x.machine(1), 2);
        Check.eq("cut()", x.cut(), 0);
        Check.eq("none is cut", x.shift(), -1);
        x.edge(0, 0, 2);
        Check.eq("0 would be the third of machine 2, and 1 has none", x.shift(), -1);
        x.node(0, 0);
        Check.eq("node 0 has the lowest number", x.shift(), 0);
        Check.eq("cut()", x.cut(), 0);
    }

    private static void toggleArguments() {
        Doc.promise(11, "Lets a machine fail, or be up again");
        Doc.promise(11, "- `machine`: 0 to 2");
        Doc.promise(11, "Returns true if it is up then");
        Doc.promise(11, "Throws `IndexOutOfBoundsException` if there is no such machine");
        Ask.range(Ask.INDEX, WeftStore::new, "toggle(?)", 0, 2);
        WeftStore x = Ask.nodes(3);
        for (int m = 0; m < 3; m++) {
            Check.is("toggle", x.toggle(m), false);
            Check.eq("it failed", x.walk(m, 0), 0);
            Check.is("toggle", x.toggle(m), true);
            Check.eq("it is up again", x.walk(m, 0), 1 << m);
        }
        for (int m = 0; m < 3; m++) {
            Check.is("all of them can fail", x.toggle(m), false);
        }
        Check.is("and be up again", x.toggle(1), true);
    }

    private static void machineArguments() {
        Doc.promise(12, "Returns the machine of a node");
        Doc.promise(12, "- `node`: a node");
        Doc.promise(12, "Returns the machine.");
        Doc.promise(12, "Throws `IndexOutOfBoundsException` if there is no such node");
        Ask.right(BoundsOfMachines::gaps, "machine(?)", 0, 1, 3);
        Ask.wrong(Ask.INDEX, BoundsOfMachines::gaps, "machine(?)", MIN, -1, 2, 4, 24, MAX);
        WeftStore x = Ask.nodes(24);
        Check.eq("the last of 24", x.machine(23), 2);
        Check.noNode("there are 24", () -> x.machine(24));
        x.toggle(2);
        Check.eq("also if it is not up", x.machine(23), 2);
    }

    private static void cutAnswersHowMany() {
        Doc.promise(13, "Returns how many edges are cut");
        WeftStore x = Ask.nodes(24);
        Check.eq("no edges", x.cut(), 0);
        for (int e = 0; e < 60; e++) {
            x.edge(e % 23, e % 4, e % 23 + 1);
        }
        Check.eq("all 60", x.cut(), 60);
        x.rule(0, 1, 2);
        Check.eq("those that are told alone", x.cut(), 60);
        x.dropEdge(0);
        Check.eq("one went", x.cut(), 59);
        for (int n = 0; n < 24; n++) {
            x.move(n, 1);
        }
        Check.eq("all on one machine", x.cut(), 0);
    }

    private static void copiesArguments() {
        Doc.promise(14, "Returns how many copies a machine has");
        Doc.promise(14, "- `machine`: 0 to 2");
        Doc.promise(14, "Returns how many.");
        Doc.promise(14, "Throws `IndexOutOfBoundsException` if there is no such machine");
        Ask.range(Ask.INDEX, WeftStore::new, "copies(?)", 0, 2);
        WeftStore x = Ask.nodes(24);
        for (int n = 1; n < 24; n++) {
            x.move(n, 1 + n % 2);
            x.edge(n % 3 == 0 ? 0 : n, 0, n % 3 == 0 ? n : 0);
        }
        Check.eq("all but its own", x.copies(0), 23);
        Check.eq("node 0", x.copies(1), 1);
        Check.eq("node 0", x.copies(2), 1);
        x.dropNode(23);
        Check.eq("one went", x.copies(0), 22);
        x.dropNode(0);
        for (int m = 0; m < 3; m++) {
            Check.eq("none is left", x.copies(m), 0);
        }
    }
}
