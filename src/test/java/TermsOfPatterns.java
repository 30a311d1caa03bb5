/** The sentences of "Patterns, rules": relations, what is inferred, walks and rounds. */
final class TermsOfPatterns {
    private static final int EDGE = WeftStore.EDGE;
    private static final int BACK = WeftStore.BACK;
    private static final int NODE = WeftStore.NODE;
    private static final int JOIN = WeftStore.JOIN;
    private static final int EITHER = WeftStore.EITHER;
    private static final int MANY = WeftStore.MANY;

    private TermsOfPatterns() {
    }

    static void run() {
        stepsThatTellARelation();
        toldAndInferredEdges();
        stepsThatTakeTwo();
        anyNumberOfTimes();
        patternsAtMost6();
        overNodesOfMachinesThatAreUpAlone();
        rulesTellInferredEdges();
        ofToldOrInferredEdges();
        whateverMachinesAreUp();
        nothingElseIsInferred();
        reasonsOfAnEdge();
        walksForSoManySteps();
        crossingsFromNodesWithFewerSteps();
        marksAtFirst();
        lowerMarksAreTaken();
        allSendAheadOfAllTaking();
        wokenByEdgesAndNodes();
        allAsAtFirst();
    }

    /** Makes a pattern of steps and labels. */
    private static int put(WeftStore x, int... stepsAndLabels) {
        for (int i = 0; i < stepsAndLabels.length; i += 2) {
            x.step(stepsAndLabels[i], stepsAndLabels[i + 1]);
        }
        return x.pattern();
    }

    private static void answers(String what, WeftStore x, int pattern, int... due) {
        int pairs = 0;
        for (int n = 0; n < due.length; n++) {
            Check.eq(what + ", answer for node " + n, x.answer(pattern, n), due[n]);
            Check.eq(what + ", answerAnew for node " + n, x.answerAnew(pattern, n), due[n]);
            pairs += Integer.bitCount(due[n]);
        }
        Check.eq(what + ", pairs", x.pairs(pattern), pairs);
    }

    private static void stepsThatTellARelation() {
        Doc.terms("A pattern tells a relation of nodes, made on a stack: EDGE l: the edges with the label l");
        Doc.terms("BACK l: the same, backwards; NODE l: each node with the label l to itself");
        WeftStore x = new WeftStore();
        x.node(0, 0);
        x.node(3, 0);
        x.node(3, 0);
        x.edge(0, 0, 1);
        x.edge(0, 3, 2);
        x.edge(2, 3, 2);
        answers("EDGE 0", x, put(x, EDGE, 0), 2, 0, 0);
        answers("EDGE 3", x, put(x, EDGE, 3), 4, 0, 4);
        answers("BACK 0", x, put(x, BACK, 0), 0, 1, 0);
        answers("BACK 3", x, put(x, BACK, 3), 0, 0, 5);
        answers("NODE 0", x, put(x, NODE, 0), 1, 0, 0);
        answers("NODE 3", x, put(x, NODE, 3), 0, 2, 4);
        x.dropNode(2);
        answers("NODE 3, one went", x, 5, 0, 2);
        answers("EDGE 3, they went", x, 1, 0, 0);
    }

    private static void toldAndInferredEdges() {
        Doc.terms("the edges with the label l, told and inferred");
        WeftStore x = Ask.row(3);
        int forth = put(x, EDGE, 1);
        int back = put(x, BACK, 1);
        answers("EDGE 1", x, forth, 0, 0, 0);
        x.rule(0, 0, 1);
        answers("EDGE 1, inferred", x, forth, 4, 0, 0);
        answers("BACK 1, inferred", x, back, 0, 0, 1);
        x.edge(1, 1, 0);
        x.edge(1, 1, 0);
        answers("EDGE 1, inferred and told twice", x, forth, 4, 1, 0);
        answers("BACK 1", x, back, 2, 0, 1);
    }

    private static void stepsThatTakeTwo() {
        Doc.terms("then JOIN: two relations, one behind the other; EITHER: two, the one or the other");
        WeftStore x = Ask.nodes(4);
        x.edge(0, 0, 1);
        x.edge(1, 1, 2);
        x.edge(2, 0, 3);
        x.edge(0, 1, 1);
        answers("0 and 1 behind it", x, put(x, EDGE, 0, EDGE, 1, JOIN, 0), 4, 0, 0, 0);
        answers("1 and 0 behind it", x, put(x, EDGE, 1, EDGE, 0, JOIN, 0), 0, 8, 0, 0);
        answers("0 or 1", x, put(x, EDGE, 0, EDGE, 1, EITHER, 0), 2, 4, 8, 0);
        answers("the upper two first", x, put(x, EDGE, 0, EDGE, 1, EDGE, 0, JOIN, 0, EITHER, 0), 2, 8, 8, 0);
        answers("the lower two first", x, put(x, EDGE, 0, EDGE, 1, EITHER, 0, EDGE, 0, JOIN, 0), 0, 8, 0, 0);
        WeftStore y = Ask.nodes(4);
        y.edge(3, 0, 0);
        y.edge(3, 0, 2);
        y.edge(0, 0, 1);
        y.edge(2, 0, 3);
        answers("over 0 to 1, and over 2 to 3", y, put(y, EDGE, 0, EDGE, 0, JOIN, 0), 0, 0, 5, 10);
        answers("back over 0 and over 2", y, put(y, BACK, 0, BACK, 0, JOIN, 0), 4, 8, 4, 8);
    }

    private static void anyNumberOfTimes() {
        Doc.terms("MANY: one relation, any number of times, none as well (each node to itself)");
        WeftStore x = Ask.row(24);
        int many = put(x, EDGE, 0, MANY, 0);
        int noneBut = put(x, EDGE, 3, MANY, 0);
        for (int n = 0; n < 24; n++) {
            Check.eq("0 to 23 times", x.answer(many, n), 0xffffff << n & 0xffffff);
            Check.eq("0 to 23 times", x.answerAnew(many, n), 0xffffff << n & 0xffffff);
            Check.eq("none alone", x.answer(noneBut, n), 1 << n);
            Check.eq("none alone", x.answerAnew(noneBut, n), 1 << n);
        }
        Check.eq("pairs", x.pairs(many), 300);
        Check.eq("pairs", x.pairs(noneBut), 24);
        x.edge(23, 0, 0);
        Check.eq("in a ring", x.pairs(many), 576);
        Check.eq("in a ring", x.answerAnew(many, 5), 0xffffff);
        WeftStore y = Ask.row(5);
        answers("twos", y, put(y, EDGE, 0, EDGE, 0, JOIN, 0, MANY, 0), 21, 10, 20, 8, 16);
        answers("many behind one", y, put(y, EDGE, 0, EDGE, 0, MANY, 0, JOIN, 0), 30, 28, 24, 16, 0);
        answers("many of many", y, put(y, EDGE, 0, MANY, 0, MANY, 0), 31, 30, 28, 24, 16);
        answers("behind another one", y, put(y, NODE, 1, EDGE, 0, MANY, 0, MANY, 0, EITHER, 0), 31, 30, 28, 24, 16);
    }

    private static void patternsAtMost6() {
        Doc.terms("Patterns are numbered from 0, at most 6");
        WeftStore x = Ask.nodes(1);
        for (int p = 0; p < 6; p++) {
            int next = p;
            Check.noNode("there is no such pattern yet", () -> x.pairs(next));
            Check.eq("pattern()", put(x, NODE, 0), p);
            Check.eq("pairs", x.pairs(p), 1);
        }
        x.step(NODE, 0);
        Check.notNow("a seventh", () -> x.pattern());
        Check.noNode("pairs(6)", () -> x.pairs(6));
        Check.noNode("pairs(-1)", () -> x.pairs(-1));
    }

    private static void overNodesOfMachinesThatAreUpAlone() {
        Doc.terms("A pattern answers, for a node, all nodes to which it is related, over nodes of machines that are up");
        WeftStore x = Ask.row(5);
        x.edge(0, 1, 2);
        int twice = put(x, EDGE, 0, EDGE, 0, JOIN, 0);
        int many = put(x, EDGE, 0, MANY, 0);
        int back = put(x, BACK, 0);
        int each = put(x, NODE, 0);
        int shortcut = put(x, EDGE, 0, EDGE, 1, EITHER, 0, MANY, 0);
        int inferred = put(x, EDGE, 3);
        x.rule(0, 0, 3);
        answers("all are up", x, twice, 4, 8, 16, 0, 0);
        answers("all are up", x, inferred, 4, 8, 16, 0, 0);
        x.toggle(1);
        answers("not over 1 and 4", x, twice, 0, 0, 0, 0, 0);
        answers("not over 1 and 4", x, many, 1, 0, 12, 8, 0);
        answers("not from 1 and 4, nor to them", x, back, 0, 0, 0, 4, 0);
        answers("neither 1 nor 4", x, each, 1, 0, 4, 8, 0);
        answers("past 1, not to 4", x, shortcut, 13, 0, 12, 8, 0);
        answers("edges inferred over 1 and 4 are there", x, inferred, 4, 0, 0, 0, 0);
        x.toggle(1);
        answers("all are up again", x, many, 31, 30, 28, 24, 16);
    }

    private static void rulesTellInferredEdges() {
        Doc.terms("A rule tells that from an edge with a label a from x to y and one with a label b from y to z");
        Doc.terms("an edge with a label c from x to z is inferred");
        WeftStore x = Ask.nodes(3);
        x.edge(0, 0, 1);
        x.edge(1, 1, 2);
        x.rule(0, 1, 2);
        Check.eq("one of x and z", x.inferred(), 1);
        Check.eq("with c", x.reasons(0, 2, 2), 1);
        Check.eq("not with a", x.reasons(0, 0, 2), 0);
        Check.eq("not with b", x.reasons(0, 1, 2), 0);
        Check.eq("not from z to x", x.reasons(2, 2, 0), 0);
        x.rule(1, 0, 3);
        Check.eq("not b ahead of a", x.inferred(), 1);
        x.edge(2, 0, 2);
        Check.eq("from 1 by 2 to 2", x.reasons(1, 3, 2), 1);
        x.edge(2, 1, 2);
        Check.eq("x, y and z may be the same", x.reasons(2, 2, 2), 1);
        Check.eq("either way", x.reasons(2, 3, 2), 1);
    }

    private static void ofToldOrInferredEdges() {
        Doc.terms("a and b are told or inferred edges");
        WeftStore x = Ask.nodes(5);
        x.edge(0, 0, 1);
        x.edge(1, 0, 2);
        x.edge(2, 1, 3);
        x.edge(4, 1, 0);
        x.rule(0, 0, 2);
        Check.eq("of told ones", x.reasons(0, 2, 2), 1);
        x.rule(2, 1, 3);
        Check.eq("the first inferred", x.reasons(0, 3, 3), 1);
        x.rule(1, 2, 3);
        Check.eq("the second inferred", x.reasons(4, 3, 2), 1);
        Check.eq("inferred()", x.inferred(), 3);
        WeftStore y = Ask.row(24);
        y.rule(0, 0, 0);
        Check.eq("from each to all behind the next one", y.inferred(), 253);
        Check.eq("from the first to the last", y.reasons(0, 0, 23), 22);
        y.dropEdge(22);
        Check.eq("but for the last", y.inferred(), 231);
        Check.eq("reasons(0, 0, 23)", y.reasons(0, 0, 23), 0);
    }

    private static void whateverMachinesAreUp() {
        Doc.terms("whatever machines are up");
        WeftStore x = Ask.row(3);
        x.rule(0, 0, 0);
        for (int m = 0; m < 3; m++) {
            x.toggle(m);
            Check.eq("inferred()", x.inferred(), 1);
            Check.eq("reasons", x.reasons(0, 0, 2), 1);
        }
    }

    private static void nothingElseIsInferred() {
        Doc.terms("What is inferred is what follows so from the told edges that are there, and nothing else");
        WeftStore x = Ask.nodes(3);
        x.edge(0, 0, 1);
        x.edge(1, 0, 0);
        x.rule(0, 0, 0);
        x.rule(0, 0, 1);
        x.rule(1, 1, 0);
        Check.eq("0 and 1 to themselves, and by 1 all four", x.inferred(), 6);
        x.dropEdge(1);
        Check.eq("reasons of one another are none", x.inferred(), 0);
        x.edge(1, 0, 2);
        Check.eq("by 0 and by 1", x.inferred(), 2);
        x.begin();
        x.unlink(0, 0);
        x.commit(0, true);
        Check.eq("by commit, too", x.inferred(), 0);
        x.edge(0, 0, 1);
        Check.eq("there again", x.inferred(), 2);
        x.dropNode(1);
        Check.eq("they went with their node", x.inferred(), 0);
    }

    private static void reasonsOfAnEdge() {
        Doc.terms("A reason of an edge with a label c from x to z is a told edge like that, or a rule and a node y");
        WeftStore x = Ask.nodes(4);
        x.edge(0, 0, 1);
        x.edge(0, 0, 2);
        x.edge(1, 0, 3);
        x.edge(2, 0, 3);
        Check.eq("neither told nor inferred", x.reasons(0, 1, 3), 0);
        x.rule(0, 0, 1);
        Check.eq("two nodes y", x.reasons(0, 1, 3), 2);
        x.edge(0, 1, 3);
        Check.eq("and a told one", x.reasons(0, 1, 3), 3);
        x.edge(0, 1, 3);
        Check.eq("and another one like that", x.reasons(0, 1, 3), 4);
        x.rule(0, 0, 1);
        Check.eq("two rules and two nodes, and two told ones", x.reasons(0, 1, 3), 6);
        x.edge(0, 0, 1);
        Check.eq("one reason for a rule and a node, with however many edges", x.reasons(0, 1, 3), 6);
        x.dropRule(1);
        Check.eq("one rule went", x.reasons(0, 1, 3), 4);
        x.dropEdge(5);
        Check.eq("one told one went", x.reasons(0, 1, 3), 3);
        x.dropEdge(0);
        Check.eq("one of two edges to the node y went", x.reasons(0, 1, 3), 3);
        x.dropNode(1);
        Check.eq("one node went", x.reasons(0, 1, 3), 2);
    }

    private static void walksForSoManySteps() {
        Doc.terms("A walk begins at a node and goes along told edges, forth, for so many steps at most");
        Doc.terms("it comes to all nodes to which some way of at most so many edges leads");
        WeftStore x = Ask.row(24);
        for (int s = 0; s <= 30; s++) {
            int due = s < 23 ? (2 << s) - 1 : 0xffffff;
            Check.eq("walk(0, " + s + ")", x.walk(0, s), due);
        }
        Check.eq("not back", x.walk(23, 30), 1 << 23);
        x.rule(0, 0, 0);
        Check.eq("not along inferred edges", x.walk(0, 1), 3);
        x.edge(0, 3, 22);
        Check.eq("by the shortest way", x.walk(0, 1), 0x400003);
        Check.eq("and from there", x.walk(0, 2), 0xc00007);
    }

    private static void crossingsFromNodesWithFewerSteps() {
        Doc.terms("It crosses machines once for each told edge that is cut and leads from a node to which it comes");
        Doc.terms("with fewer steps");
        WeftStore x = Ask.row(24);
        for (int s = 0; s <= 30; s++) {
            Check.eq("crossings(0, " + s + ")", x.crossings(0, s), Math.min(s, 23));
        }
        x.rule(0, 0, 0);
        Check.eq("not along inferred edges", x.crossings(0, 1), 1);
        x.edge(0, 1, 1);
        Check.eq("once for each edge", x.crossings(0, 1), 2);
        x.edge(0, 1, 0);
        x.edge(0, 1, 3);
        Check.eq("those on one machine are not cut", x.crossings(0, 1), 2);
        Check.eq("but lead to others", x.crossings(0, 2), 4);
        x.edge(2, 0, 0);
        Check.eq("to a node to which it came ahead of that", x.crossings(0, 3), 7);
        Check.eq("with as many steps, not with fewer", x.crossings(1, 1), 1);
        Check.eq("with fewer steps", x.crossings(1, 2), 3);
    }

    private static void marksAtFirst() {
        Doc.terms("Each node that is there has a mark, at first its number, and is awake, at first");
        WeftStore x = Ask.nodes(24);
        for (int n = 0; n < 24; n++) {
            Check.eq("its number", x.mark(n), n);
        }
        WeftStore y = Ask.row(24);
        Check.eq("all but the lowest get a lower one", y.round(1), 23);
        Check.eq("mark(23)", y.mark(23), 22);
        Check.eq("mark(0)", y.mark(0), 0);
    }

    private static void lowerMarksAreTaken() {
        Doc.terms("In a round each awake node sends its mark to all nodes with which it has an edge, either way");
        Doc.terms("a node that gets a lower one than it has takes the lowest of those, and is awake in the next round");
        Doc.terms("others sleep");
        WeftStore x = Ask.nodes(6);
        x.edge(5, 0, 2);
        x.edge(1, 0, 5);
        x.edge(5, 3, 3);
        Check.eq("all but 5 get none that is lower", x.round(1), 1);
        Check.eq("the lowest of 1, 2 and 3", x.mark(5), 1);
        Check.eq("not a higher one", x.mark(2), 2);
        Check.eq("2 and 3 by 5", x.round(1), 2);
        Check.eq("mark(2)", x.mark(2), 1);
        Check.eq("mark(3)", x.mark(3), 1);
        Check.eq("the same one is not lower", x.round(1), 0);
        Check.eq("none is awake", x.round(30), 0);
        x.edge(0, 0, 4);
        Check.eq("4 alone", x.round(1), 1);
        Check.eq("mark(4)", x.mark(4), 0);
        x.edge(4, 0, 4);
        Check.eq("to itself it is not lower", x.round(1), 0);
    }

    private static void allSendAheadOfAllTaking() {
        Doc.terms("(All send ahead of all taking; machines do not matter.)");
        WeftStore x = Ask.row(4);
        Check.eq("round(1)", x.round(1), 3);
        Check.eq("mark(1)", x.mark(1), 0);
        Check.eq("mark(2), not 0 as yet", x.mark(2), 1);
        Check.eq("mark(3)", x.mark(3), 2);
        WeftStore y = Ask.nodes(4);
        for (int n = 3; n > 0; n--) {
            y.edge(n, 0, n - 1);
        }
        for (int m = 0; m < 3; m++) {
            y.toggle(m);
        }
        Check.eq("round(2), none is up", y.round(2), 2);
        Check.eq("mark(2)", y.mark(2), 0);
        Check.eq("mark(3), not 0 as yet", y.mark(3), 1);
    }

    private static void wokenByEdgesAndNodes() {
        Doc.terms("An edge that comes wakes both ends; a node that comes is awake");
        WeftStore x = Ask.row(3);
        x.round(30);
        Check.eq("a node", x.node(0, 0), 3);
        Check.eq("mark(3)", x.mark(3), 3);
        WeftStore y = Ask.row(3);
        y.node(0, 0);
        Check.eq("it puts none to sleep", y.round(1), 2);
        x.edge(3, 0, 2);
        Check.eq("2 sends 0 to 3", x.round(1), 1);
        Check.eq("mark(3)", x.mark(3), 0);
        Check.eq("round(30)", x.round(30), 0);
        x.node(0, 0);
        x.node(0, 0);
        x.round(1);
        x.begin();
        x.link(0, 4, 0, 5);
        x.commit(0, true);
        Check.eq("an edge that is committed wakes both ends: 4 sends to 5", x.round(1), 1);
        x.begin();
        x.link(0, 5, 0, 0);
        x.commit(0, true);
        Check.eq("0 sends to 5", x.round(1), 1);
        Check.eq("mark(4) waits for 5", x.mark(4), 4);
        Check.eq("5 sends to 4", x.round(1), 1);
        Check.eq("mark(4)", x.mark(4), 0);
    }

    private static void allAsAtFirst() {
        Doc.terms("When an edge or a node goes, all marks are as at first, and all nodes are awake");
        WeftStore x = Ask.row(5);
        x.round(30);
        Check.eq("mark(4)", x.mark(4), 0);
        x.dropEdge(3);
        for (int n = 0; n < 5; n++) {
            Check.eq("an edge went", x.mark(n), n);
        }
        Check.eq("1, 2 and 3", x.round(1), 3);
        x.round(30);
        x.dropNode(4);
        for (int n = 0; n < 4; n++) {
            Check.eq("a node without edges went", x.mark(n), n);
        }
        Check.eq("1, 2 and 3", x.round(1), 3);
        x.begin();
        x.unlink(0, 0);
        x.round(30);
        Check.eq("not as yet", x.mark(1), 0);
        x.commit(0, true);
        Check.eq("an edge went by a commit", x.mark(1), 1);
        Check.eq("2 and 3", x.round(1), 2);
        x.begin();
        x.write(0, 0, 9);
        x.commit(0, true);
        Check.eq("no edge went", x.mark(3), 2);
    }
}
