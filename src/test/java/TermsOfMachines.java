/** The sentences of "Terms" on machines: where nodes come, what is cut and copied, and what is shifted. */
final class TermsOfMachines {
    private TermsOfMachines() {
    }

    static void run() {
        putOnTheEmptiest();
        cutIfOnDifferentMachines();
        copiesOfOtherMachines();
        shiftsToAtMostTwoMore();
        shiftsCountThoseThatAreUp();
        shiftsCountAheadOfTheMove();
        shiftsBetweenMachinesThatAreUp();
        shiftsOfNodesThatAreThere();
        shiftsByWhichMostFewerAreCut();
        shiftsOfTheLowestNode();
        shiftsToTheLowestMachine();
        shiftsNoneIfNoEdgeFewer();
        failAndUpAgain();
    }

    private static void putOnTheEmptiest() {
        Doc.terms("A node that comes is put on the machine with the fewest nodes that are there");
        Doc.terms("of those that are up, of several the lowest");
        WeftStore x = Ask.nodes(3);
        x.dropNode(2);
        Check.eq("1, 1 and 0 are there", x.machine(x.node(0, 0)), 2);
        x.move(3, 0);
        Check.eq("2, 1 and 0 are there", x.machine(x.node(0, 0)), 2);
        Check.eq("2, 1 and 1: the lowest of two", x.machine(x.node(0, 0)), 1);
        x.toggle(2);
        Check.eq("2, 2 and 1, which is not up", x.machine(x.node(0, 0)), 0);
        Check.eq("3 and 2", x.machine(x.node(0, 0)), 1);
        x.toggle(0);
        Check.eq("3 alone", x.machine(x.node(0, 0)), 1);
        x.toggle(1);
        Check.notNow("none is up", () -> x.node(0, 0));
        x.toggle(0);
        Check.eq("3 and 4 and 1, of which two are not up", x.machine(x.node(0, 0)), 0);
        WeftStore y = new WeftStore();
        y.toggle(0);
        y.toggle(1);
        for (int n = 0; n < 24; n++) {
            Check.eq("all on the only one that is up", y.machine(y.node(0, n)), 2);
        }
    }

    private static void cutIfOnDifferentMachines() {
        Doc.terms("An edge is cut if its ends are on different machines");
        WeftStore x = Ask.nodes(4);
        x.edge(0, 0, 3);
        x.edge(1, 0, 1);
        Check.eq("on the same one", x.cut(), 0);
        x.edge(0, 0, 1);
        Check.eq("0 and 1", x.cut(), 1);
        x.edge(2, 0, 1);
        Check.eq("2 and 1", x.cut(), 2);
        x.edge(0, 0, 1);
        Check.eq("each one counts", x.cut(), 3);
        x.toggle(0);
        Check.eq("also if one is not up", x.cut(), 3);
        x.toggle(0);
        x.move(1, 0);
        Check.eq("two of them are on one by now", x.cut(), 1);
    }

    private static void copiesOfOtherMachines() {
        Doc.terms("A machine has a copy of each node of another machine from which or to which");
        Doc.terms("an edge of one of its nodes leads");
        WeftStore x = Ask.nodes(4);
        x.edge(0, 0, 3);
        x.edge(3, 0, 3);
        Check.eq("none of its own", x.copies(0), 0);
        x.edge(0, 0, 1);
        Check.eq("to which one leads", x.copies(0), 1);
        Check.eq("from which one leads", x.copies(1), 1);
        Check.eq("neither", x.copies(2), 0);
        x.edge(1, 0, 3);
        Check.eq("1 once", x.copies(0), 1);
        Check.eq("0 and 3", x.copies(1), 2);
        x.edge(2, 0, 0);
        Check.eq("1 and 2", x.copies(0), 2);
        Check.eq("0", x.copies(2), 1);
    }

    /** So many nodes on each machine, numbered from those of the first one on. */
    private static WeftStore loads(int first, int second, int third) {
        WeftStore x = Ask.nodes(first + second + third);
        for (int n = 0; n < first + second + third; n++) {
            x.move(n, n < first ? 0 : n < first + second ? 1 : 2);
        }
        return x;
    }

    private static void shiftsTo(String what, WeftStore x, int node, int machine) {
        Check.eq("shift(), " + what, x.shift(), node);
        Check.eq("its machine then, " + what, x.machine(node), machine);
    }

    private static void shiftsToAtMostTwoMore() {
        Doc.terms("and then have at most 2 more nodes than the machine with the fewest");
        WeftStore x = loads(4, 4, 3);
        x.edge(0, 0, 4);
        shiftsTo("5 are 2 more than 3", x, 0, 1);
        WeftStore y = loads(4, 4, 2);
        y.edge(0, 0, 4);
        Check.eq("5 are 3 more than 2, either way", y.shift(), -1);
        Check.eq("machine(0)", y.machine(0), 0);
        WeftStore z = loads(3, 4, 2);
        z.edge(0, 0, 3);
        shiftsTo("5 would be 3 more than 2, 4 are 2 more", z, 3, 0);
        WeftStore w = loads(2, 1, 0);
        w.edge(0, 0, 2);
        shiftsTo("2 are 2 more than none", w, 0, 1);
        WeftStore v = loads(2, 2, 0);
        v.edge(0, 0, 2);
        Check.eq("3 are 3 more than none", v.shift(), -1);
    }

    private static void shiftsCountThoseThatAreUp() {
        Doc.terms("than the machine with the fewest, of those that are up,");
        WeftStore x = loads(4, 4, 1);
        x.edge(0, 0, 4);
        Check.eq("5 are more than 1 and 2", x.shift(), -1);
        x.toggle(2);
        shiftsTo("the machine with 1 is not up", x, 0, 1);
    }

    private static void shiftsCountAheadOfTheMove() {
        Doc.terms("has ahead of that");
        WeftStore x = loads(1, 2, 2);
        x.edge(0, 0, 1);
        shiftsTo("3 are 2 more than the 1 that its own machine has ahead of it", x, 0, 1);
        WeftStore y = loads(4, 4, 2);
        y.edge(0, 0, 8);
        shiftsTo("its new machine has 2 ahead of it, and 3 then", y, 0, 2);
        WeftStore z = loads(1, 3, 3);
        z.edge(0, 0, 1);
        shiftsTo("4 are 3 more than 1, but 2 are not", z, 1, 0);
    }

    private static void shiftsBetweenMachinesThatAreUp() {
        Doc.terms("To shift: of all nodes that are there, on machines that are up, and all machines that are up");
        WeftStore x = loads(1, 1, 1);
        x.edge(0, 0, 1);
        x.toggle(0);
        Check.eq("neither from machine 0 nor to it", x.shift(), -1);
        x.toggle(0);
        x.toggle(1);
        Check.eq("neither from machine 1 nor to it", x.shift(), -1);
        x.toggle(0);
        x.toggle(2);
        Check.eq("none is up", x.shift(), -1);
        x.toggle(1);
        Check.eq("one is up", x.shift(), -1);
        x.toggle(0);
        shiftsTo("both are up", x, 0, 1);
    }

    private static void shiftsOfNodesThatAreThere() {
        Doc.terms("of all nodes that are there, on machines");
        WeftStore x = loads(2, 2, 2);
        x.edge(0, 0, 2);
        x.edge(1, 0, 2);
        x.dropNode(0);
        shiftsTo("node 0 went, and its edge", x, 1, 1);
        Check.eq("none is left", x.shift(), -1);
        WeftStore y = loads(4, 5, 4);
        y.edge(0, 0, 4);
        y.dropNode(12);
        y.dropNode(11);
        Check.eq("2 of those of machine 2 went: 6 are too many, and so are 5", y.shift(), -1);
        WeftStore z = loads(4, 6, 4);
        z.edge(0, 0, 4);
        z.dropNode(9);
        shiftsTo("1 of those of machine 1 went: 6 are 2 more than 4", z, 0, 1);
    }

    private static void shiftsByWhichMostFewerAreCut() {
        Doc.terms("other than their own");
        Doc.terms("the move by which most edges fewer are cut is done");
        WeftStore x = loads(2, 2, 2);
        x.edge(0, 0, 2);
        x.edge(1, 0, 4);
        x.edge(5, 0, 1);
        shiftsTo("two fewer", x, 1, 2);
        Check.eq("cut()", x.cut(), 1);
        WeftStore y = loads(2, 2, 2);
        y.edge(0, 0, 1);
        y.edge(0, 0, 2);
        y.edge(0, 0, 3);
        shiftsTo("node 0: two fewer and one more; node 2: one fewer", y, 0, 1);
        Check.eq("cut()", y.cut(), 1);
        WeftStore z = loads(2, 2, 2);
        z.edge(5, 3, 3);
        z.edge(3, 2, 5);
        z.edge(0, 0, 2);
        shiftsTo("each edge counts, either way", z, 3, 2);
    }

    private static void shiftsOfTheLowestNode() {
        Doc.terms("of several the one of the lowest node");
        WeftStore x = loads(2, 2, 2);
        x.edge(5, 0, 3);
        x.edge(4, 0, 1);
        shiftsTo("1, 3, 4 and 5: one fewer each", x, 1, 2);
        shiftsTo("5, for 3 would be the fourth of machine 2", x, 5, 1);
        Check.eq("none is cut", x.shift(), -1);
    }

    private static void shiftsToTheLowestMachine() {
        Doc.terms("then to the lowest machine");
        WeftStore x = loads(2, 2, 2);
        x.move(0, 2);
        x.move(5, 0);
        x.edge(0, 0, 2);
        x.edge(0, 0, 5);
        shiftsTo("to 0 or 1: one fewer each", x, 0, 0);
        WeftStore y = loads(2, 2, 2);
        y.edge(0, 0, 5);
        y.edge(0, 0, 3);
        shiftsTo("to 1 or 2: one fewer each", y, 0, 1);
    }

    private static void shiftsNoneIfNoEdgeFewer() {
        Doc.terms("none if no edge fewer would be cut");
        WeftStore x = loads(2, 2, 2);
        Check.eq("no edges", x.shift(), -1);
        x.edge(0, 0, 1);
        x.edge(2, 0, 3);
        Check.eq("none is cut", x.shift(), -1);
        x.edge(0, 0, 2);
        Check.eq("one fewer, but one more", x.shift(), -1);
        Check.eq("cut()", x.cut(), 1);
        x.edge(2, 1, 0);
        shiftsTo("two fewer and one more", x, 0, 1);
        Check.eq("cut()", x.cut(), 1);
    }

    private static void failAndUpAgain() {
        Doc.terms("A machine can fail and be up again: its nodes are still there");
        Doc.terms("but patterns and walks do not come to them, nor begin at them");
        WeftStore x = Ask.row(3);
        x.step(WeftStore.EDGE, 0);
        x.step(WeftStore.MANY, 0);
        x.pattern();
        Check.is("toggle(1)", x.toggle(1), false);
        Check.eq("still there", x.sizeAt(5), 302);
        Check.eq("set(1, 7)", x.set(1, 7), 1);
        Check.eq("edge(1, 3, 1)", x.edge(1, 3, 1), 2);
        Check.eq("machine(1)", x.machine(1), 1);
        Check.eq("a pattern does not come to it", x.answer(0, 0), 1);
        Check.eq("nor step by step", x.answerAnew(0, 0), 1);
        Check.eq("nor a walk", x.walk(0, 2), 1);
        Check.eq("a pattern does not begin at it", x.answer(0, 1), 0);
        Check.eq("nor step by step", x.answerAnew(0, 1), 0);
        Check.eq("nor a walk", x.walk(1, 2), 0);
        Check.is("toggle(1)", x.toggle(1), true);
        Check.eq("answer(0, 0)", x.answer(0, 0), 7);
        Check.eq("answerAnew(0, 1)", x.answerAnew(0, 1), 6);
        Check.eq("walk(0, 2)", x.walk(0, 2), 7);
    }
}
