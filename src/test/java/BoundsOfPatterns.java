import java.util.function.Supplier;

/** Promises 25 to 34, line by line: patterns and rules. */
final class BoundsOfPatterns {
    private static final int MIN = Integer.MIN_VALUE;
    private static final int MAX = Integer.MAX_VALUE;

    private BoundsOfPatterns() {
    }

    static void run() {
        stepArguments();
        stepAnswersHowManyRelations();
        stepThrowsInItsOrder();
        stepThrowsIfThereAre12();
        twelveStepsOfEachKind();
        stepThrowsIfThereAreTooFew();
        patternAnswersItsNumber();
        patternThrowsIfNotJustOne();
        patternThrowsIfThereAre6();
        patternArguments();
        nodeArguments();
        answersAreSets();
        pairsAnswersHowMany();
        isWholeIfItIsTheSame();
        ruleArguments();
        ruleThrowsIfThereWere6();
        dropRuleArguments();
        dropRuleAnswersHowMany();
        inferredAnswersHowMany();
        reasonsArguments();
        reasonsAnswersHowMany();
    }

    /** A draft with so many relations, each of one step. */
    private static Supplier<WeftStore> draft(int relations) {
        return () -> {
            WeftStore x = new WeftStore();
            for (int i = 0; i < relations; i++) {
                x.step(WeftStore.NODE, 0);
            }
            return x;
        };
    }

    private static void stepArguments() {
        Doc.promise(25, "- `kind`: EDGE to MANY");
        Doc.promise(25, "- `l`: a label, 0 to 3, of EDGE, BACK and NODE; otherwise 0");
        Doc.promise(25, "Throws `IndexOutOfBoundsException` if there is no such label");
        Doc.promise(25, "Throws `IllegalArgumentException` if kind is out of range");
        Doc.promise(25, "or l has to be 0");
        Ask.range(Ask.ARGUMENT, draft(2), "step(?, 0)", WeftStore.EDGE, WeftStore.MANY);
        for (int kind = WeftStore.EDGE; kind <= WeftStore.NODE; kind++) {
            Ask.range(Ask.INDEX, draft(0), "step(" + kind + ", ?)", 0, 3);
        }
        for (int kind = WeftStore.JOIN; kind <= WeftStore.MANY; kind++) {
            Ask.range(Ask.ARGUMENT, draft(2), "step(" + kind + ", ?)", 0, 0);
            Ask.wrong(Ask.ARGUMENT, draft(2), "step(" + kind + ", ?)", 2, 3, 4);
        }
    }

    private static void stepAnswersHowManyRelations() {
        Doc.promise(25, "Puts a step on the stack of the draft of a pattern");
        Doc.promise(25, "Returns how many relations the stack has then");
        WeftStore x = new WeftStore();
        int[] steps = {0, 1, 2, 5, 3, 4, 5, 0, 4, 2, 1, 5};
        int[] due = {1, 2, 3, 3, 2, 1, 1, 2, 1, 2, 3, 3};
        for (int i = 0; i < steps.length; i++) {
            Check.eq("step " + (i + 1), x.step(steps[i], 0), due[i]);
        }
    }

    private static void stepThrowsInItsOrder() {
        Doc.promise(25, "(that goes first here)");
        Ask.wrong(Ask.ARGUMENT, draft(0), "step(-1, ?)", MIN, -1, 0, 3, 4);
        Ask.wrong(Ask.ARGUMENT, draft(0), "step(6, ?)", -1, 0, 3, 4, MAX);
        Ask.wrong(Ask.ARGUMENT, draft(12), "step(6, ?)", -1, 0, 4);
        for (int kind = WeftStore.EDGE; kind <= WeftStore.NODE; kind++) {
            Ask.wrong(Ask.INDEX, draft(12), "step(" + kind + ", ?)", -1, 4);
            Ask.wrong(Ask.STATE, draft(12), "step(" + kind + ", ?)", 0, 3);
        }
        for (int kind = WeftStore.JOIN; kind <= WeftStore.MANY; kind++) {
            Ask.wrong(Ask.ARGUMENT, draft(12), "step(" + kind + ", ?)", -1, 1, 4);
            Ask.wrong(Ask.ARGUMENT, draft(0), "step(" + kind + ", ?)", -1, 1, 4);
            Ask.wrong(Ask.STATE, draft(12), "step(" + kind + ", ?)", 0);
            Ask.wrong(Ask.STATE, draft(0), "step(" + kind + ", ?)", 0);
        }
    }

    private static void stepThrowsIfThereAre12() {
        Doc.promise(25, "Throws `IllegalStateException` if there are 12 steps");
        WeftStore x = Ask.nodes(1);
        x.step(WeftStore.NODE, 0);
        for (int i = 2; i <= 12; i++) {
            Check.eq("step " + i, x.step(WeftStore.MANY, 0), 1);
        }
        Check.notNow("a 13th", () -> x.step(WeftStore.MANY, 0));
        Check.notNow("a 13th", () -> x.step(WeftStore.EDGE, 0));
        Check.eq("pattern()", x.pattern(), 0);
        for (int i = 1; i <= 12; i++) {
            Check.eq("of the next draft, step " + i, x.step(WeftStore.EDGE, 0), i);
        }
        Check.notNow("a 13th", () -> x.step(WeftStore.JOIN, 0));
    }

    /** The longest patterns of few kinds, over a row of 24 nodes. */
    private static void twelveStepsOfEachKind() {
        Doc.promise(25, "if there are 12 steps");
        WeftStore x = Ask.row(24);
        x.step(WeftStore.EDGE, 0);
        for (int i = 2; i <= 12; i++) {
            x.step(WeftStore.MANY, 0);
        }
        Check.eq("many of many", x.pattern(), 0);
        for (int i = 0; i < 5; i++) {
            x.step(WeftStore.EDGE, 0);
            x.step(WeftStore.EDGE, 0);
            x.step(WeftStore.JOIN, 0);
            for (int j = 0; j < 4; j++) {
                x.step(WeftStore.EDGE, 0);
                x.step(i % 2 == 0 ? WeftStore.JOIN : WeftStore.EITHER, 0);
            }
            x.step(WeftStore.MANY, 0);
            Check.eq("pattern()", x.pattern(), i + 1);
        }
        for (int n = 0; n < 24; n++) {
            int onward = 0xffffff << n & 0xffffff;
            Check.eq("many of many", x.answer(0, n), onward);
            Check.eq("many of many", x.answerAnew(0, n), onward);
            int sixth = 0;
            for (int m = n; m < 24; m += 6) {
                sixth |= 1 << m;
            }
            Check.eq("six edges, many times", x.answer(1, n), sixth);
            Check.eq("six edges, many times", x.answerAnew(1, n), sixth);
            Check.eq("two edges or one, many times", x.answer(2, n), onward);
            Check.eq("two edges or one, many times", x.answerAnew(2, n), onward);
        }
        WeftStore y = Ask.row(24);
        for (int i = 0; i < 6; i++) {
            y.step(WeftStore.EDGE, 0);
        }
        for (int i = 0; i < 5; i++) {
            y.step(WeftStore.JOIN, 0);
        }
        y.step(WeftStore.MANY, 0);
        y.pattern();
        Check.eq("all joined at the end", y.answer(0, 5), 1 << 5 | 1 << 11 | 1 << 17 | 1 << 23);
        Check.eq("all joined at the end", y.answerAnew(0, 5), 1 << 5 | 1 << 11 | 1 << 17 | 1 << 23);
    }

    private static void stepThrowsIfThereAreTooFew() {
        Doc.promise(25, "or the stack has too few relations");
        for (int kind : new int[] {WeftStore.JOIN, WeftStore.EITHER}) {
            Ask.wrong(Ask.STATE, draft(0), "step(?, 0)", kind);
            Ask.wrong(Ask.STATE, draft(1), "step(?, 0)", kind);
            Check.eq("two", draft(2).get().step(kind, 0), 1);
            Check.eq("three", draft(3).get().step(kind, 0), 2);
        }
        Ask.wrong(Ask.STATE, draft(0), "step(?, 0)", WeftStore.MANY);
        Check.eq("one", draft(1).get().step(WeftStore.MANY, 0), 1);
        WeftStore x = draft(2).get();
        x.step(WeftStore.JOIN, 0);
        Check.notNow("one of two is left", () -> x.step(WeftStore.JOIN, 0));
        x.pattern();
        Check.notNow("none is left", () -> x.step(WeftStore.MANY, 0));
    }

    private static void patternAnswersItsNumber() {
        Doc.promise(26, "Makes the draft a pattern; it is empty then");
        Doc.promise(26, "Returns its number");
        WeftStore x = draft(1).get();
        Check.eq("pattern()", x.pattern(), 0);
        Check.notNow("it is empty", () -> x.pattern());
        Check.notNow("it is empty", () -> x.step(WeftStore.MANY, 0));
        Check.eq("one relation", x.step(WeftStore.EDGE, 0), 1);
        Check.eq("pattern()", x.pattern(), 1);
        for (int i = 1; i <= 12; i++) {
            Check.eq("all 12 steps are free", x.step(WeftStore.NODE, 0), i);
        }
    }

    private static void patternThrowsIfNotJustOne() {
        Doc.promise(26, "Throws `IllegalStateException` if the stack does not have just one relation");
        Check.notNow("none", () -> draft(0).get().pattern());
        Check.eq("one", draft(1).get().pattern(), 0);
        Check.notNow("two", () -> draft(2).get().pattern());
        Check.notNow("twelve", () -> draft(12).get().pattern());
        WeftStore x = draft(2).get();
        Check.notNow("two", () -> x.pattern());
        Check.eq("they stay", x.step(WeftStore.EITHER, 0), 1);
        Check.eq("one", x.pattern(), 0);
    }

    private static void patternThrowsIfThereAre6() {
        Doc.promise(26, "or there are 6 patterns");
        WeftStore x = Ask.nodes(1);
        for (int p = 0; p < 6; p++) {
            x.step(WeftStore.NODE, p % 4);
            Check.eq("there are fewer", x.pattern(), p);
        }
        Check.eq("a draft is possible", x.step(WeftStore.NODE, 0), 1);
        Check.notNow("there are 6", () -> x.pattern());
        Check.eq("it stays", x.step(WeftStore.NODE, 0), 2);
        for (int p = 0; p < 6; p++) {
            Check.eq("the patterns stay", x.answer(p, 0), p % 4 == 0 ? 1 : 0);
        }
    }

    /** Nodes 0, 1 and 3, node 2 went; an edge from 0 to 1; the patterns 0 and 1; and a draft. */
    private static WeftStore gaps() {
        WeftStore x = Ask.nodes(4);
        x.edge(0, 0, 1);
        x.dropNode(2);
        x.step(WeftStore.EDGE, 0);
        x.pattern();
        x.step(WeftStore.NODE, 0);
        x.pattern();
        x.step(WeftStore.NODE, 0);
        return x;
    }

    private static void patternArguments() {
        for (int p = 27; p <= 30; p++) {
            Doc.promise(p, "- `pattern`: a pattern");
            Doc.promise(p, "Throws `IndexOutOfBoundsException` if there is no such pattern");
        }
        for (String call : new String[] {"answer(?, 0)", "answerAnew(?, 0)", "pairs(?)", "isWhole(?, 0)"}) {
            Ask.range(Ask.INDEX, BoundsOfPatterns::gaps, call, 0, 1);
            Ask.wrong(Ask.INDEX, BoundsOfPatterns::gaps, call, 2, 5, 6, 7);
        }
    }

    private static void nodeArguments() {
        for (int p : new int[] {27, 28, 30}) {
            Doc.promise(p, "- `node`: a node");
            Doc.promise(p, "or node");
        }
        for (String call : new String[] {"answer(1, ?)", "answerAnew(1, ?)", "isWhole(1, ?)"}) {
            Ask.right(BoundsOfPatterns::gaps, call, 0, 1, 3);
            Ask.wrong(Ask.INDEX, BoundsOfPatterns::gaps, call, MIN, -1, 2, 4, 24, 32, MAX);
        }
    }

    private static void answersAreSets() {
        Doc.promise(27, "Returns the answer of a pattern for a node");
        Doc.promise(27, "Returns the nodes, as a set: bit n for the node n");
        Doc.promise(28, "Returns the same, found by going on from the node alone, step by step");
        Doc.promise(28, "Returns the nodes, as a set.");
        WeftStore x = Ask.nodes(24);
        int first = 0;
        for (int n : new int[] {0, 5, 12, 23}) {
            x.edge(7, 0, n);
            first |= 1 << n;
        }
        x.step(WeftStore.EDGE, 0);
        x.pattern();
        x.step(WeftStore.EDGE, 0);
        x.step(WeftStore.BACK, 0);
        x.step(WeftStore.JOIN, 0);
        x.pattern();
        Check.eq("bits 0, 5, 12 and 23", x.answer(0, 7), first);
        Check.eq("bits 0, 5, 12 and 23", x.answerAnew(0, 7), first);
        Check.eq("none", x.answer(0, 23), 0);
        Check.eq("none", x.answerAnew(0, 23), 0);
        Check.eq("itself", x.answer(1, 7), 1 << 7);
        Check.eq("itself", x.answerAnew(1, 7), 1 << 7);
    }

    private static void pairsAnswersHowMany() {
        Doc.promise(29, "Returns how many pairs of nodes a pattern relates");
        Doc.promise(29, "Returns how many.");
        WeftStore x = new WeftStore();
        x.step(WeftStore.EDGE, 0);
        x.step(WeftStore.MANY, 0);
        x.pattern();
        x.step(WeftStore.EDGE, 0);
        x.pattern();
        Check.eq("no nodes", x.pairs(0), 0);
        for (int n = 0; n < 24; n++) {
            x.node(0, n);
            Check.eq("each to itself", x.pairs(0), n + 1);
        }
        Check.eq("no edges", x.pairs(1), 0);
        for (int n = 0; n < 24; n++) {
            x.edge(n, 0, (n + 1) % 24);
        }
        x.edge(0, 0, 1);
        Check.eq("of two edges one pair", x.pairs(1), 24);
        Check.eq("each to each", x.pairs(0), 576);
        x.toggle(0);
        Check.eq("a third of all are not up: 16 to themselves, 8 to the next one", x.pairs(0), 24);
        Check.eq("8 to the next one", x.pairs(1), 8);
    }

    private static void isWholeIfItIsTheSame() {
        Doc.promise(30, "Returns whether the answer of a pattern for a node is what it would be if all machines were up");
        Doc.promise(30, "Returns true if it is");
        WeftStore x = Ask.row(4);
        x.edge(2, 1, 3);
        x.step(WeftStore.EDGE, 0);
        x.step(WeftStore.MANY, 0);
        x.pattern();
        x.step(WeftStore.EDGE, 1);
        x.pattern();
        for (int n = 0; n < 4; n++) {
            Check.is("all are up", x.isWhole(0, n), true);
        }
        x.toggle(1);
        boolean[] due = {false, false, true, true};
        for (int n = 0; n < 4; n++) {
            Check.is("node 1 is not up: " + n, x.isWhole(0, n), due[n]);
            Check.is("nothing leads over it: " + n, x.isWhole(1, n), true);
        }
        x.toggle(1);
        x.toggle(0);
        Check.is("from one that is not up to none", x.isWhole(1, 0), true);
        Check.is("to one that is not up", x.isWhole(1, 2), false);
        Check.is("a node that is not up is not related to itself", x.isWhole(0, 3), false);
    }

    private static void ruleArguments() {
        Doc.promise(31, "Adds a rule");
        Doc.promise(31, "- `a`: 0 to 3");
        Doc.promise(31, "- `b`: 0 to 3");
        Doc.promise(31, "- `c`: 0 to 3");
        Doc.promise(31, "Throws `IndexOutOfBoundsException` if there is no such label, of one of them");
        Ask.range(Ask.INDEX, WeftStore::new, "rule(?, 0, 0)", 0, 3);
        Ask.range(Ask.INDEX, WeftStore::new, "rule(0, ?, 0)", 0, 3);
        Ask.range(Ask.INDEX, WeftStore::new, "rule(0, 0, ?)", 0, 3);
        for (int n = 0; n < 64; n++) {
            WeftStore x = Ask.nodes(3);
            x.edge(0, n / 16, 1);
            x.edge(1, n / 4 % 4, 2);
            Check.eq("rule", x.rule(n / 16, n / 4 % 4, n % 4), 0);
            Check.eq("by " + n, x.reasons(0, n % 4, 2), 1);
            Check.eq("it alone", x.inferred(), 1);
        }
    }

    private static void ruleThrowsIfThereWere6() {
        Doc.promise(31, "Returns its number");
        Doc.promise(31, "Throws `IllegalStateException` if there were 6");
        WeftStore x = new WeftStore();
        for (int r = 0; r < 6; r++) {
            Check.eq("there were " + r, x.rule(r % 4, 0, 0), r);
        }
        Check.notNow("there were 6", () -> x.rule(0, 0, 0));
        x.dropRule(5);
        x.dropRule(0);
        Check.notNow("there were 6, two were dropped", () -> x.rule(0, 0, 0));
        WeftStore y = new WeftStore();
        for (int r = 0; r < 6; r++) {
            Check.eq("there were " + r, y.rule(0, 0, 0), r);
            y.dropRule(r);
        }
        Check.notNow("there were 6, all were dropped", () -> y.rule(0, 0, 0));
    }

    private static WeftStore rules() {
        WeftStore x = Ask.row(4);
        x.rule(0, 0, 1);
        x.rule(0, 1, 2);
        x.rule(0, 0, 1);
        x.dropRule(2);
        return x;
    }

    private static void dropRuleArguments() {
        Doc.promise(32, "Drops a rule");
        Doc.promise(32, "- `rule`: a rule that was not dropped");
        Doc.promise(32, "Throws `IndexOutOfBoundsException` if there is no such rule");
        Ask.range(Ask.INDEX, BoundsOfPatterns::rules, "dropRule(?)", 0, 1);
        Ask.wrong(Ask.INDEX, BoundsOfPatterns::rules, "dropRule(?)", 2, 3, 5, 6, 7);
        WeftStore x = new WeftStore();
        for (int r = 0; r < 6; r++) {
            x.rule(0, 0, 0);
        }
        for (int r = 5; r >= 0; r--) {
            int rule = r;
            Check.eq("dropRule", x.dropRule(r), 0);
            Check.noNode("it was dropped", () -> x.dropRule(rule));
        }
    }

    private static void dropRuleAnswersHowMany() {
        Doc.promise(32, "Returns how many edges are inferred no more that are not told");
        Check.eq("0 to 3 by the label 2", rules().dropRule(1), 1);
        Check.eq("and 0 to 2 and 1 to 3 by the label 1", rules().dropRule(0), 3);
        WeftStore x = rules();
        x.edge(0, 1, 2);
        Check.eq("one of them is told", x.dropRule(0), 2);
        WeftStore y = rules();
        y.edge(1, 1, 3);
        Check.eq("it is told, and what follows from it stays", y.dropRule(0), 1);
        WeftStore z = rules();
        z.rule(0, 0, 1);
        Check.eq("they have another reason", z.dropRule(0), 0);
        Check.eq("and then none", z.dropRule(3), 3);
        Check.eq("inferred()", z.inferred(), 0);
    }

    private static void inferredAnswersHowMany() {
        Doc.promise(33, "Returns how many edges are inferred that are not told; of two nodes and a label one at most");
        WeftStore x = Ask.nodes(24);
        x.rule(0, 0, 0);
        Check.eq("no edges", x.inferred(), 0);
        for (int n = 1; n < 24; n++) {
            x.edge(0, 0, n);
            x.edge(n, 0, 0);
        }
        Check.eq("each to each, but for those that are told", x.inferred(), 576 - 46);
        x.rule(0, 0, 1);
        x.rule(0, 0, 1);
        x.rule(0, 1, 2);
        x.rule(2, 0, 3);
        Check.eq("of four labels", x.inferred(), 4 * 576 - 46);
        x.edge(0, 0, 1);
        x.edge(5, 3, 5);
        x.edge(5, 3, 5);
        Check.eq("one of them is told by now", x.inferred(), 4 * 576 - 47);
    }

    private static void reasonsArguments() {
        Doc.promise(34, "- `from`: a node");
        Doc.promise(34, "- `label`: 0 to 3");
        Doc.promise(34, "- `to`: a node");
        Doc.promise(34, "Throws `IndexOutOfBoundsException` if there is no such node, of either, or label");
        Ask.right(BoundsOfPatterns::gaps, "reasons(?, 0, 1)", 0, 1, 3);
        Ask.wrong(Ask.INDEX, BoundsOfPatterns::gaps, "reasons(?, 0, 1)", MIN, -1, 2, 4, 24, MAX);
        Ask.right(BoundsOfPatterns::gaps, "reasons(0, 0, ?)", 0, 1, 3);
        Ask.wrong(Ask.INDEX, BoundsOfPatterns::gaps, "reasons(0, 0, ?)", MIN, -1, 2, 4, 24, MAX);
        Ask.range(Ask.INDEX, BoundsOfPatterns::gaps, "reasons(0, ?, 1)", 0, 3);
    }

    private static void reasonsAnswersHowMany() {
        Doc.promise(34, "Returns how many reasons an edge has");
        Doc.promise(34, "Returns how many; 0 if it is neither told nor inferred");
        WeftStore x = gaps();
        Check.eq("told", x.reasons(0, 0, 1), 1);
        Check.eq("neither", x.reasons(1, 0, 0), 0);
        Check.eq("neither", x.reasons(0, 1, 1), 0);
        WeftStore y = Ask.nodes(24);
        for (int n = 2; n < 24; n++) {
            y.edge(0, 0, n);
            y.edge(n, 1, 1);
        }
        for (int r = 0; r < 6; r++) {
            y.rule(0, 1, 2);
        }
        Check.eq("6 rules and 22 nodes", y.reasons(0, 2, 1), 132);
        for (int e = 44; e < 60; e++) {
            y.edge(0, 2, 1);
        }
        Check.eq("and 16 that are told", y.reasons(0, 2, 1), 148);
        y.dropNode(23);
        Check.eq("one node went", y.reasons(0, 2, 1), 142);
    }
}
