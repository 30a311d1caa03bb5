/** Promises 37 to 39: round, mark, least. */
public final class RoundsTest {
    public static void main(String[] args) {
        rounds();
        allSendAheadOfAllTaking();
        takenUpAgain();
        wakes();
        drops();
        commits();
        least();
        wrongOnes();
        Check.end();
    }

    private static WeftStore row(int count) {
        WeftStore x = new WeftStore();
        for (int n = 0; n < count; n++) {
            x.node(0, n);
        }
        for (int n = 0; n + 1 < count; n++) {
            x.edge(n + 1, 0, n);
        }
        return x;
    }

    private static void marks(WeftStore x, int... due) {
        for (int n = 0; n < due.length; n++) {
            Check.eq("mark(" + n + ")", x.mark(n), due[n]);
        }
    }

    private static void rounds() {
        WeftStore x = new WeftStore();
        Check.eq("round(1), no nodes", x.round(1), 0);
        x.node(0, 7);
        x.node(0, 7);
        marks(x, 0, 1);
        Check.eq("round(1), no edges", x.round(1), 0);
        marks(x, 0, 1);
        x.edge(0, 0, 0);
        Check.eq("round(1), a loop", x.round(1), 0);
    }

    private static void allSendAheadOfAllTaking() {
        WeftStore x = row(5);
        Check.eq("round(1)", x.round(1), 4);
        marks(x, 0, 0, 1, 2, 3);
        Check.eq("round(1)", x.round(1), 3);
        marks(x, 0, 0, 0, 1, 2);
        Check.eq("round(2)", x.round(2), 1);
        marks(x, 0, 0, 0, 0, 0);
        Check.eq("round(1)", x.round(1), 0);
        Check.eq("round(30)", x.round(30), 0);
        Check.eq("it is no write", x.time(), 9);
        x.toggle(0);
        x.toggle(1);
        x.toggle(2);
        x.dropEdge(0);
        Check.eq("machines do not matter", x.round(1), 3);
        marks(x, 0, 1, 1, 2, 3);
    }

    private static void takenUpAgain() {
        WeftStore x = row(24);
        Check.eq("round(10)", x.round(10), 14);
        Check.eq("mark(23)", x.mark(23), 13);
        Check.eq("round(10)", x.round(10), 4);
        Check.eq("mark(23)", x.mark(23), 3);
        Check.eq("round(3)", x.round(3), 1);
        Check.eq("mark(23)", x.mark(23), 0);
        Check.eq("round(1)", x.round(1), 0);
    }

    private static void wakes() {
        WeftStore x = row(4);
        Check.eq("round(30)", x.round(30), 0);
        Check.eq("node", x.node(0, 0), 4);
        marks(x, 0, 0, 0, 0, 4);
        x.edge(4, 3, 3);
        Check.eq("only 3 and 4 send", x.round(1), 1);
        marks(x, 0, 0, 0, 0, 0);
        Check.eq("round(1)", x.round(1), 0);
        x.node(0, 0);
        x.node(0, 0);
        x.edge(5, 0, 6);
        Check.eq("round(1)", x.round(1), 1);
        x.edge(5, 0, 4);
        Check.eq("6 is not woken, but 5 takes 0", x.round(1), 1);
        marks(x, 0, 0, 0, 0, 0, 0, 5);
        Check.eq("then 6", x.round(1), 1);
        marks(x, 0, 0, 0, 0, 0, 0, 0);
        x.set(0, 3);
        Check.eq("a value wakes none", x.round(1), 0);
        WeftStore y = row(3);
        y.edge(0, 0, 2);
        Check.eq("a node that sleeps sends nothing", y.round(30), 0);
        marks(y, 0, 0, 0);
    }

    private static void drops() {
        WeftStore x = row(4);
        x.round(30);
        x.dropEdge(2);
        marks(x, 0, 1, 2, 3);
        Check.eq("all are awake", x.round(1), 2);
        marks(x, 0, 0, 1, 3);
        x.round(30);
        x.dropNode(0);
        Check.eq("mark(1)", x.mark(1), 1);
        Check.eq("mark(2)", x.mark(2), 2);
        Check.eq("round(1)", x.round(1), 1);
        Check.eq("mark(2)", x.mark(2), 1);
        x.dropNode(3);
        Check.eq("a node without edges: anew as well", x.mark(2), 2);
        Check.noNode("mark(0)", () -> x.mark(0));
    }

    private static void commits() {
        WeftStore x = row(4);
        x.node(0, 0);
        x.round(30);
        x.begin();
        x.link(0, 4, 0, 3);
        x.commit(0, true);
        marks(x, 0, 0, 0, 0, 4);
        Check.eq("3 and 4 were woken", x.round(1), 1);
        marks(x, 0, 0, 0, 0, 0);
        x.begin();
        x.unlink(0, 0);
        x.link(0, 0, 0, 4);
        x.commit(0, true);
        marks(x, 0, 1, 2, 3, 4);
        Check.eq("all are awake", x.round(1), 3);
        marks(x, 0, 1, 1, 2, 0);
        x.begin();
        x.write(0, 0, 8);
        x.commit(0, true);
        marks(x, 0, 1, 1, 2, 0);
        x.begin();
        x.unlink(0, 1);
        x.set(1, 4);
        Check.eq("a clash", x.commit(0, true), -1);
        marks(x, 0, 1, 1, 2, 0);
    }

    private static void least() {
        WeftStore one = new WeftStore();
        one.node(0, 0);
        one.node(0, 0);
        one.edge(0, 0, 1);
        Check.eq("against the edge", one.least(1), 0);
        WeftStore x = row(5);
        x.dropEdge(1);
        int[] due = {0, 0, 2, 2, 2};
        for (int n = 0; n < due.length; n++) {
            Check.eq("least(" + n + ")", x.least(n), due[n]);
        }
        Check.eq("the first edge, from its end", x.least(1), 0);
        x.rule(0, 0, 1);
        x.edge(4, 0, 1);
        Check.eq("least(2)", x.least(2), 0);
        x.toggle(x.machine(1));
        Check.eq("machines do not matter", x.least(2), 0);
        x.dropNode(1);
        Check.eq("least(4)", x.least(4), 2);
        Check.eq("least(0)", x.least(0), 0);
        WeftStore y = row(24);
        Check.eq("least(23)", y.least(23), 0);
        y.dropNode(0);
        Check.eq("least(23)", y.least(23), 1);
    }

    private static void wrongOnes() {
        WeftStore x = row(3);
        x.dropNode(1);
        int[] none = {-1, 1, 3, 24, Integer.MAX_VALUE, Integer.MIN_VALUE};
        for (int n : none) {
            Check.noNode("mark(" + n + ")", () -> x.mark(n));
            Check.noNode("least(" + n + ")", () -> x.least(n));
        }
        int[] rounds = {0, -1, 31, Integer.MAX_VALUE, Integer.MIN_VALUE};
        for (int r : rounds) {
            Check.badArgument("round(" + r + ")", () -> x.round(r));
        }
    }
}
