/** Promises 22 to 24: time, valueAt, sizeAt. */
public final class TimeTest {
    public static void main(String[] args) {
        times();
        values();
        valuesOfCommits();
        sizes();
        longPast();
        atTheLimits();
        Check.end();
    }

    private static void times() {
        WeftStore x = new WeftStore();
        x.node(0, 0);
        x.node(1, 0);
        x.edge(0, 0, 1);
        x.set(0, 0);
        Check.eq("four writes", x.time(), 4);
        x.key(0);
        x.shape(0, 0, 1);
        x.move(0, 2);
        x.shift();
        x.toggle(1);
        x.toggle(1);
        x.step(0, 0);
        x.pattern();
        x.rule(0, 0, 1);
        x.dropRule(0);
        x.round(3);
        x.begin();
        x.write(0, 0, 3);
        Check.eq("nothing of this is a write", x.time(), 4);
        x.commit(0, true);
        Check.eq("a commit is", x.time(), 5);
        x.dropEdge(0);
        x.dropNode(0);
        Check.eq("drops are", x.time(), 7);
        Check.noNode("dropNode(0)", () -> x.dropNode(0));
        Check.eq("what throws changes nothing", x.time(), 7);
    }

    private static void values() {
        WeftStore x = new WeftStore();
        x.node(0, 5);
        x.node(0, 6);
        x.set(0, 7);
        x.set(1, 8);
        x.set(0, 9);
        x.dropNode(0);
        Check.noNode("valueAt(0, 0)", () -> x.valueAt(0, 0));
        Check.eq("valueAt(0, 1)", x.valueAt(0, 1), 5);
        Check.eq("valueAt(0, 2)", x.valueAt(0, 2), 5);
        Check.eq("valueAt(0, 3)", x.valueAt(0, 3), 7);
        Check.eq("valueAt(0, 4)", x.valueAt(0, 4), 7);
        Check.eq("valueAt(0, 5)", x.valueAt(0, 5), 9);
        Check.noNode("valueAt(0, 6), it went", () -> x.valueAt(0, 6));
        Check.noNode("valueAt(1, 1), it was not there yet", () -> x.valueAt(1, 1));
        Check.eq("valueAt(1, 3)", x.valueAt(1, 3), 6);
        Check.eq("valueAt(1, 6)", x.valueAt(1, 6), 8);
        Check.badArgument("valueAt(0, 7)", () -> x.valueAt(0, 7));
        Check.badArgument("valueAt(0, -1)", () -> x.valueAt(0, -1));
        Check.badArgument("valueAt(9, 7), that goes first", () -> x.valueAt(9, 7));
        Check.badArgument("valueAt(-1, MIN)", () -> x.valueAt(-1, Integer.MIN_VALUE));
        Check.noNode("valueAt(2, 6)", () -> x.valueAt(2, 6));
        Check.noNode("valueAt(-1, 6)", () -> x.valueAt(-1, 6));
    }

    private static void valuesOfCommits() {
        WeftStore x = new WeftStore();
        x.node(0, 1);
        x.node(0, 2);
        x.begin();
        x.write(0, 0, 3);
        x.write(0, 0, 4);
        x.write(0, 1, 5);
        x.node(0, 9);
        x.commit(0, true);
        Check.eq("valueAt(0, 3)", x.valueAt(0, 3), 1);
        Check.eq("the later of two writes", x.valueAt(0, 4), 4);
        Check.eq("valueAt(1, 3)", x.valueAt(1, 3), 2);
        Check.eq("valueAt(1, 4)", x.valueAt(1, 4), 5);
        Check.eq("set(0, 6)", x.set(0, 6), 4);
    }

    private static void sizes() {
        WeftStore x = new WeftStore();
        x.node(0, 1);
        x.node(0, 2);
        x.edge(0, 0, 1);
        x.edge(0, 0, 1);
        x.set(0, 4);
        x.dropNode(1);
        x.node(0, 3);
        int[] due = {0, 100, 200, 201, 202, 202, 100, 200};
        for (int t = 0; t < due.length; t++) {
            Check.eq("sizeAt(" + t + ")", x.sizeAt(t), due[t]);
        }
        Check.badArgument("sizeAt(8)", () -> x.sizeAt(8));
        Check.badArgument("sizeAt(-1)", () -> x.sizeAt(-1));
        Check.badArgument("sizeAt(MAX)", () -> x.sizeAt(Integer.MAX_VALUE));
        x.rule(0, 0, 0);
        x.edge(2, 0, 2);
        Check.eq("told edges alone", x.sizeAt(8), 201);
    }

    private static void atTheLimits() {
        WeftStore x = new WeftStore();
        for (int n = 0; n < 24; n++) {
            x.node(0, n);
        }
        Check.noNode("valueAt(24, 24)", () -> x.valueAt(24, 24));
        Check.noNode("set(24, 0)", () -> x.set(24, 0));
        Check.noNode("dropNode(24)", () -> x.dropNode(24));
        Check.noNode("machine(24)", () -> x.machine(24));
        for (int e = 0; e < 60; e++) {
            x.edge(e % 24, 0, 0);
        }
        Check.noNode("dropEdge(60)", () -> x.dropEdge(60));
        Check.eq("sizeAt(84)", x.sizeAt(84), 2460);
        Check.eq("sizeAt(24)", x.sizeAt(24), 2400);
        Check.eq("valueAt(23, 84)", x.valueAt(23, 84), 23);
        Check.eq("dropNode(0)", x.dropNode(0), 60);
    }

    private static void longPast() {
        WeftStore x = new WeftStore();
        x.node(0, 0);
        for (int i = 1; i < 500; i++) {
            x.set(0, i);
        }
        Check.eq("time()", x.time(), 500);
        Check.eq("valueAt(0, 1)", x.valueAt(0, 1), 0);
        Check.eq("valueAt(0, 250)", x.valueAt(0, 250), 249);
        Check.eq("valueAt(0, 500)", x.valueAt(0, 500), 499);
        Check.eq("set", x.set(0, -1), 499);
        Check.eq("valueAt(0, 501)", x.valueAt(0, 501), -1);
    }
}
