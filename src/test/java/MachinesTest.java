/** Promises 9 to 14: move, shift, toggle, machine, cut, copies. */
public final class MachinesTest {
    public static void main(String[] args) {
        moves();
        toggles();
        cutsAndCopies();
        shifts();
        shiftsWithinTheSpread();
        shiftsAmongThoseThatAreUp();
        shiftsOfSeveral();
        copiesOfSeveral();
        atTheLimits();
        Check.end();
    }

    private static WeftStore withNodes(int count) {
        WeftStore x = new WeftStore();
        for (int i = 0; i < count; i++) {
            x.node(i % 4, i);
        }
        return x;
    }

    private static void moves() {
        WeftStore x = withNodes(3);
        Check.eq("move(0, 2)", x.move(0, 2), 0);
        Check.eq("machine(0)", x.machine(0), 2);
        Check.eq("move(0, 2), its own", x.move(0, 2), 2);
        Check.eq("a move is no write", x.time(), 3);
        Check.noNode("move(3, 0)", () -> x.move(3, 0));
        Check.noNode("move(-1, 0)", () -> x.move(-1, 0));
        Check.noNode("move(0, 3)", () -> x.move(0, 3));
        Check.noNode("move(0, -1)", () -> x.move(0, -1));
        x.toggle(1);
        Check.notNow("move(0, 1), to one that is not up", () -> x.move(0, 1));
        Check.notNow("move(1, 0), from one that is not up", () -> x.move(1, 0));
        Check.notNow("move(1, 1), its own, not up", () -> x.move(1, 1));
        Check.noNode("move(1, 3)", () -> x.move(1, 3));
        Check.noNode("move(3, 1)", () -> x.move(3, 1));
        Check.eq("machine(0)", x.machine(0), 2);
        Check.eq("machine(1), not up", x.machine(1), 1);
        x.dropNode(0);
        Check.noNode("move(0, 0), it went", () -> x.move(0, 0));
        Check.noNode("machine(0), it went", () -> x.machine(0));
        Check.noNode("machine(-1)", () -> x.machine(-1));
        Check.noNode("machine(3)", () -> x.machine(3));
        Check.noNode("machine(MAX)", () -> x.machine(Integer.MAX_VALUE));
    }

    private static void toggles() {
        WeftStore x = withNodes(3);
        Check.is("toggle(1)", x.toggle(1), false);
        Check.is("toggle(1)", x.toggle(1), true);
        Check.is("toggle(2)", x.toggle(2), false);
        Check.noNode("toggle(3)", () -> x.toggle(3));
        Check.noNode("toggle(-1)", () -> x.toggle(-1));
        Check.eq("it is no write", x.time(), 3);
        Check.eq("its nodes are still there", x.sizeAt(3), 300);
        Check.eq("they can be written", x.set(2, 9), 2);
    }

    private static void cutsAndCopies() {
        WeftStore x = withNodes(6);
        x.edge(0, 0, 1);
        x.edge(0, 1, 1);
        x.edge(1, 0, 0);
        x.edge(3, 0, 0);
        x.edge(2, 0, 2);
        x.edge(5, 0, 0);
        Check.eq("cut()", x.cut(), 4);
        Check.eq("copies(0)", x.copies(0), 2);
        Check.eq("copies(1)", x.copies(1), 1);
        Check.eq("copies(2)", x.copies(2), 1);
        x.toggle(0);
        Check.eq("cut(), one is not up", x.cut(), 4);
        Check.eq("copies(0), not up", x.copies(0), 2);
        Check.eq("copies(1), of one that is not up", x.copies(1), 1);
        x.toggle(0);
        x.dropEdge(5);
        Check.eq("cut()", x.cut(), 3);
        Check.eq("copies(2)", x.copies(2), 0);
        x.move(1, 0);
        Check.eq("cut()", x.cut(), 0);
        Check.eq("copies(0)", x.copies(0), 0);
        Check.noNode("copies(3)", () -> x.copies(3));
        Check.noNode("copies(-1)", () -> x.copies(-1));
    }

    private static void shifts() {
        WeftStore x = withNodes(3);
        Check.eq("shift(), no edges", x.shift(), -1);
        x.edge(2, 0, 2);
        Check.eq("shift(), none is cut", x.shift(), -1);
        x.edge(0, 0, 2);
        x.edge(2, 1, 0);
        x.edge(1, 0, 2);
        Check.eq("shift()", x.shift(), 0);
        Check.eq("machine(0)", x.machine(0), 2);
        Check.eq("cut()", x.cut(), 1);
        Check.eq("it is no write", x.time(), 7);
        Check.eq("shift(), machine 0 is empty", x.shift(), -1);
        Check.eq("cut()", x.cut(), 1);
    }

    private static void shiftsWithinTheSpread() {
        WeftStore x = withNodes(6);
        x.edge(0, 0, 1);
        Check.eq("2 to 3, the fewest are 2", x.shift(), 0);
        x.edge(3, 0, 1);
        Check.eq("the last of machine 0 would be the fourth of 1, the fewest is 1", x.machine(3), 0);
        Check.eq("so node 1 goes nowhere, nor node 3", x.shift(), -1);
        x.node(0, 0);
        Check.eq("machine(6)", x.machine(6), 0);
        Check.eq("now the fewest are 2, and 4 is not too many", x.shift(), 3);
        Check.eq("machine(3)", x.machine(3), 1);
    }

    private static void shiftsAmongThoseThatAreUp() {
        WeftStore x = withNodes(6);
        x.edge(0, 0, 1);
        x.toggle(1);
        Check.eq("not to one, nor from one that is not up", x.shift(), -1);
        x.edge(2, 0, 1);
        x.edge(2, 0, 3);
        Check.eq("edges to one that is not up stay cut", x.shift(), 2);
        Check.eq("machine(2)", x.machine(2), 0);
        Check.eq("fewest is 1 at 2", x.machine(5), 2);
        x.toggle(1);
        x.toggle(0);
        x.toggle(1);
        x.toggle(2);
        Check.eq("none is up", x.shift(), -1);
        x.toggle(2);
        x.edge(5, 1, 0);
        Check.eq("only one is up", x.shift(), -1);
    }

    private static void copiesOfSeveral() {
        WeftStore x = withNodes(6);
        x.edge(0, 0, 1);
        Check.eq("the first edge", x.copies(0), 1);
        x.edge(0, 0, 2);
        x.edge(0, 0, 4);
        x.edge(5, 0, 3);
        Check.eq("copies(0)", x.copies(0), 4);
        Check.eq("copies(1)", x.copies(1), 1);
        Check.eq("copies(2)", x.copies(2), 2);
        x.dropNode(0);
        Check.eq("copies(0)", x.copies(0), 1);
    }

    private static void atTheLimits() {
        WeftStore x = withNodes(24);
        for (int e = 0; e < 60; e++) {
            x.edge(23, e % 4, 3 * (e % 8));
        }
        Check.eq("cut()", x.cut(), 60);
        Check.eq("copies(0)", x.copies(0), 1);
        Check.eq("copies(2)", x.copies(2), 8);
        Check.eq("shift()", x.shift(), 23);
        Check.eq("cut()", x.cut(), 0);
        Check.eq("shift()", x.shift(), -1);
    }

    private static void shiftsOfSeveral() {
        WeftStore x = withNodes(3);
        x.edge(2, 0, 1);
        x.edge(2, 0, 0);
        Check.eq("all gain one: the lowest node", x.shift(), 0);
        Check.eq("machine(0)", x.machine(0), 2);
        WeftStore y = withNodes(6);
        y.edge(5, 0, 0);
        y.edge(5, 0, 1);
        y.edge(5, 0, 3);
        y.edge(5, 0, 4);
        Check.eq("most edges fewer, then the lowest node", y.shift(), 5);
        Check.eq("to the lowest machine", y.machine(5), 0);
        WeftStore z = withNodes(3);
        z.toggle(0);
        z.edge(2, 0, 1);
        z.edge(0, 0, 1);
        Check.eq("the lowest whose machine is up", z.shift(), 1);
        Check.eq("to one that is up", z.machine(1), 2);
    }
}
