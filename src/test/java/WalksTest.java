/** Promises 35 and 36: walk, crossings. */
public final class WalksTest {
    public static void main(String[] args) {
        walks();
        crossings();
        machinesThatFail();
        wrongOnes();
        Check.end();
    }

    /** 0 to 4 in a row, each on the next machine, 0 to 2 as well, 4 back to 0, and 5 alone. */
    private static WeftStore ring() {
        WeftStore x = new WeftStore();
        for (int n = 0; n < 6; n++) {
            x.node(0, n);
        }
        for (int n = 0; n < 4; n++) {
            x.edge(n, n % 4, n + 1);
        }
        x.edge(0, 3, 2);
        x.edge(4, 0, 0);
        return x;
    }

    private static void walks() {
        WeftStore x = ring();
        int[] due = {1, 7, 15, 31, 31};
        for (int s = 0; s < due.length; s++) {
            Check.eq("walk(0, " + s + ")", x.walk(0, s), due[s]);
        }
        Check.eq("walk(0, 30)", x.walk(0, 30), 31);
        Check.eq("walk(1, 2)", x.walk(1, 2), 14);
        Check.eq("walk(5, 30)", x.walk(5, 30), 32);
        x.rule(1, 2, 0);
        Check.eq("told edges alone", x.walk(1, 1), 6);
        x.dropEdge(0);
        Check.eq("walk(0, 1)", x.walk(0, 1), 5);
    }

    private static void crossings() {
        WeftStore x = ring();
        int[] due = {0, 2, 4, 5, 6, 6};
        for (int s = 0; s < due.length; s++) {
            Check.eq("crossings(0, " + s + ")", x.crossings(0, s), due[s]);
        }
        Check.eq("crossings(5, 30)", x.crossings(5, 30), 0);
        x.move(3, 2);
        Check.eq("edge 2 is not cut", x.crossings(0, 3), 4);
        x.edge(0, 0, 1);
        Check.eq("once for each edge", x.crossings(0, 1), 3);
        x.edge(0, 0, 0);
        Check.eq("a loop is not cut", x.crossings(0, 1), 3);
        x.dropEdge(0);
        Check.eq("one went", x.crossings(0, 1), 2);
    }

    private static void machinesThatFail() {
        WeftStore x = ring();
        x.toggle(1);
        Check.eq("walk(0, 30), not over 1, nor to 4", x.walk(0, 30), 13);
        Check.eq("edges to 1 and to 4 count", x.crossings(0, 30), 4);
        Check.eq("walk(1, 30), its machine is not up", x.walk(1, 30), 0);
        Check.eq("walk(1, 0)", x.walk(1, 0), 0);
        Check.eq("crossings(1, 30)", x.crossings(1, 30), 0);
        Check.eq("walk(2, 0)", x.walk(2, 0), 4);
        x.toggle(1);
        Check.eq("walk(0, 30)", x.walk(0, 30), 31);
    }

    private static void wrongOnes() {
        WeftStore x = ring();
        x.dropNode(5);
        int[] none = {-1, 5, 6, 24, Integer.MAX_VALUE, Integer.MIN_VALUE};
        for (int n : none) {
            Check.noNode("walk(" + n + ", 1)", () -> x.walk(n, 1));
            Check.noNode("walk(" + n + ", 31), it goes first", () -> x.walk(n, 31));
            Check.noNode("crossings(" + n + ", 1)", () -> x.crossings(n, 1));
            Check.noNode("crossings(" + n + ", -1), it goes first", () -> x.crossings(n, -1));
        }
        int[] steps = {-1, 31, Integer.MAX_VALUE, Integer.MIN_VALUE};
        x.toggle(0);
        for (int s : steps) {
            Check.badArgument("walk(1, " + s + ")", () -> x.walk(1, s));
            Check.badArgument("walk(0, " + s + "), not up", () -> x.walk(0, s));
            Check.badArgument("crossings(1, " + s + ")", () -> x.crossings(1, s));
            Check.badArgument("crossings(0, " + s + "), not up", () -> x.crossings(0, s));
        }
    }
}
