/** Promises 31 to 34: rule, dropRule, inferred, reasons. */
public final class RulesTest {
    public static void main(String[] args) {
        rules();
        inference();
        chains();
        rings();
        reasonsOfRules();
        drops();
        machinesDoNotMatter();
        commits();
        Check.end();
    }

    private static WeftStore withNodes(int count) {
        WeftStore x = new WeftStore();
        for (int i = 0; i < count; i++) {
            x.node(0, i);
        }
        return x;
    }

    private static void rules() {
        WeftStore x = withNodes(1);
        int[] none = {-1, 4, Integer.MAX_VALUE, Integer.MIN_VALUE};
        for (int l : none) {
            Check.noNode("rule(" + l + ", 0, 0)", () -> x.rule(l, 0, 0));
            Check.noNode("rule(0, " + l + ", 0)", () -> x.rule(0, l, 0));
            Check.noNode("rule(0, 0, " + l + ")", () -> x.rule(0, 0, l));
        }
        for (int i = 0; i < 6; i++) {
            Check.eq("rule", x.rule(3, 3, 3), i);
        }
        Check.notNow("there were 6", () -> x.rule(0, 0, 0));
        Check.eq("dropRule(5)", x.dropRule(5), 0);
        Check.notNow("there were 6, one was dropped", () -> x.rule(0, 0, 0));
        Check.noNode("rule(4, 0, 0), there were 6", () -> x.rule(4, 0, 0));
        Check.noNode("dropRule(5) again", () -> x.dropRule(5));
        Check.noNode("dropRule(6)", () -> x.dropRule(6));
        Check.noNode("dropRule(-1)", () -> x.dropRule(-1));
        Check.eq("a rule is no write", x.time(), 1);
    }

    private static void inference() {
        WeftStore x = withNodes(4);
        x.edge(0, 0, 1);
        x.edge(1, 1, 2);
        x.edge(1, 1, 3);
        Check.eq("inferred(), no rule", x.inferred(), 0);
        x.rule(0, 1, 2);
        Check.eq("inferred()", x.inferred(), 2);
        Check.eq("reasons(0, 2, 2)", x.reasons(0, 2, 2), 1);
        Check.eq("reasons(0, 2, 3)", x.reasons(0, 2, 3), 1);
        Check.eq("reasons(1, 2, 3)", x.reasons(1, 2, 3), 0);
        Check.eq("reasons(0, 0, 2)", x.reasons(0, 0, 2), 0);
        x.edge(0, 2, 2);
        Check.eq("one of them is told by now", x.inferred(), 1);
        Check.eq("reasons(0, 2, 2)", x.reasons(0, 2, 2), 2);
        x.edge(0, 2, 2);
        Check.eq("told twice", x.reasons(0, 2, 2), 3);
        Check.eq("inferred()", x.inferred(), 1);
        x.dropEdge(1);
        Check.eq("reasons(0, 2, 2), told alone", x.reasons(0, 2, 2), 2);
        Check.eq("inferred()", x.inferred(), 1);
        x.dropNode(1);
        Check.eq("inferred()", x.inferred(), 0);
        Check.noNode("reasons(1, 2, 0)", () -> x.reasons(1, 2, 0));
        Check.noNode("reasons(0, 2, 1)", () -> x.reasons(0, 2, 1));
        Check.noNode("reasons(-1, 2, 0)", () -> x.reasons(-1, 2, 0));
        Check.noNode("reasons(0, 2, 4)", () -> x.reasons(0, 2, 4));
        Check.noNode("reasons(0, 4, 2)", () -> x.reasons(0, 4, 2));
        Check.noNode("reasons(0, -1, 2)", () -> x.reasons(0, -1, 2));
    }

    private static void chains() {
        WeftStore x = withNodes(24);
        for (int n = 0; n + 1 < 24; n++) {
            x.edge(n, 0, n + 1);
        }
        x.rule(0, 0, 0);
        Check.eq("inferred()", x.inferred(), 276 - 23);
        Check.eq("reasons(0, 0, 23)", x.reasons(0, 0, 23), 22);
        x.rule(0, 0, 1);
        Check.eq("inferred()", x.inferred(), 276 - 23 + 253);
        x.dropEdge(11);
        Check.eq("inferred()", x.inferred(), 2 * 66 - 22 + 2 * 55);
        Check.eq("reasons(0, 0, 23)", x.reasons(0, 0, 23), 0);
        WeftStore y = withNodes(24);
        for (int n = 0; n + 1 < 24; n++) {
            y.edge(n, n == 22 ? 1 : 0, n + 1);
        }
        y.rule(0, 1, 1);
        Check.eq("backwards through the row", y.inferred(), 22);
        Check.eq("reasons(0, 1, 23)", y.reasons(0, 1, 23), 1);
    }

    private static void rings() {
        WeftStore x = withNodes(3);
        x.edge(0, 0, 1);
        x.edge(1, 0, 0);
        x.rule(0, 0, 0);
        Check.eq("both to themselves", x.inferred(), 2);
        Check.eq("reasons(0, 0, 0)", x.reasons(0, 0, 0), 2);
        Check.eq("reasons(0, 0, 1), told and by both nodes", x.reasons(0, 0, 1), 3);
        x.dropEdge(1);
        Check.eq("reasons of one another do not hold", x.inferred(), 0);
        Check.eq("reasons(0, 0, 0)", x.reasons(0, 0, 0), 0);
        x.edge(2, 0, 2);
        Check.eq("a loop, told and inferred", x.reasons(2, 0, 2), 2);
        Check.eq("inferred()", x.inferred(), 0);
    }

    private static void reasonsOfRules() {
        WeftStore x = withNodes(4);
        x.edge(0, 0, 1);
        x.edge(0, 0, 2);
        x.edge(1, 0, 3);
        x.edge(2, 0, 3);
        x.edge(0, 0, 1);
        x.rule(0, 0, 1);
        Check.eq("by two nodes, however often told", x.reasons(0, 1, 3), 2);
        Check.eq("of two nodes and a label one", x.inferred(), 1);
        x.rule(0, 0, 1);
        Check.eq("by two rules", x.reasons(0, 1, 3), 4);
        Check.eq("inferred()", x.inferred(), 1);
        Check.eq("dropRule(0)", x.dropRule(0), 0);
        Check.eq("by one rule", x.reasons(0, 1, 3), 2);
        Check.eq("dropRule(1)", x.dropRule(1), 1);
        Check.eq("by none", x.reasons(0, 1, 3), 0);
    }

    private static void drops() {
        WeftStore x = withNodes(4);
        x.edge(0, 0, 1);
        x.edge(1, 0, 2);
        x.edge(2, 1, 3);
        x.rule(0, 0, 2);
        x.rule(2, 1, 3);
        Check.eq("inferred()", x.inferred(), 2);
        x.edge(0, 2, 2);
        Check.eq("inferred()", x.inferred(), 1);
        Check.eq("it is told, so all stays", x.dropRule(0), 0);
        Check.eq("inferred()", x.inferred(), 1);
        Check.eq("rule", x.rule(0, 0, 2), 2);
        x.dropEdge(3);
        Check.eq("inferred()", x.inferred(), 2);
        Check.eq("it and what follows from it", x.dropRule(2), 2);
        Check.eq("inferred()", x.inferred(), 0);
        Check.noNode("dropRule(2)", () -> x.dropRule(2));
        Check.eq("dropRule(1)", x.dropRule(1), 0);
    }

    private static void machinesDoNotMatter() {
        WeftStore x = withNodes(3);
        x.edge(0, 0, 1);
        x.edge(1, 0, 2);
        x.rule(0, 0, 0);
        x.toggle(1);
        Check.eq("inferred()", x.inferred(), 1);
        Check.eq("reasons(0, 0, 2)", x.reasons(0, 0, 2), 1);
        x.toggle(0);
        x.toggle(2);
        Check.eq("inferred()", x.inferred(), 1);
    }

    private static void commits() {
        WeftStore x = withNodes(3);
        x.edge(0, 0, 1);
        x.rule(0, 0, 0);
        x.begin();
        x.link(0, 1, 0, 2);
        Check.eq("not yet", x.inferred(), 0);
        x.commit(0, true);
        Check.eq("inferred()", x.inferred(), 1);
        x.begin();
        x.unlink(0, 0);
        Check.eq("still", x.inferred(), 1);
        x.commit(0, true);
        Check.eq("inferred()", x.inferred(), 0);
    }
}
