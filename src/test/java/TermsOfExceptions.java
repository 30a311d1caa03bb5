import java.util.ArrayList;
import java.util.List;
import java.util.function.Supplier;

/** The sentences of "Terms" on exceptions: for what, which goes first, and that nothing is changed. */
final class TermsOfExceptions {
    private TermsOfExceptions() {
    }

    static void run() {
        constants();
        forWhatDoesNotExist();
        asOfATime();
        forWhatIsOutOfRange();
        ifNotPossibleNow();
        whatDoesNotExistGoesFirst();
        whatIsOutOfRangeGoesNext();
        changesNothing("a graph with all there is", TermsOfExceptions::rich, WRONG_OF_RICH);
        changesNothing("a store at its bounds", TermsOfExceptions::full, WRONG_OF_FULL);
        changesNothing("a store with no machine up", TermsOfExceptions::down, WRONG_OF_DOWN);
        changesNothing("a new store", WeftStore::new, WRONG_OF_NEW);
    }

    private static void constants() {
        Doc.terms("The constants: `NONE = -1`: None.");
        Check.eq("NONE", WeftStore.NONE, -1);
        Doc.terms("`EDGE = 0, BACK = 1, NODE = 2, JOIN = 3, EITHER = 4, MANY = 5`: Steps of patterns.");
        int[] steps = {WeftStore.EDGE, WeftStore.BACK, WeftStore.NODE, WeftStore.JOIN, WeftStore.EITHER, WeftStore.MANY};
        for (int i = 0; i < steps.length; i++) {
            Check.eq("a step of patterns", steps[i], i);
        }
    }

    /** Nodes 0 to 4, of which 2 went, edges 0 to 5, of which 3 to 5 went, machine 1 not up, and some of all else. */
    private static WeftStore rich() {
        WeftStore x = new WeftStore();
        String[] calls = {"node(0, 10)", "node(0, 11)", "node(1, 12)", "node(1, 10)", "node(2, 14)", "edge(0, 0, 1)",
            "edge(1, 1, 3)", "edge(3, 0, 4)", "edge(2, 3, 0)", "edge(4, 3, 2)", "edge(4, 1, 4)", "set(0, 13)",
            "dropEdge(5)", "dropNode(2)", "key(0)", "key(1)", "shape(1, 0, 1)", "begin()", "write(0, 0, 20)",
            "link(0, 0, 0, 3)", "unlink(0, 1)", "begin()", "set(4, 15)", "begin()", "commit(1, false)", "step(0, 0)",
            "step(5, 0)", "pattern()", "step(0, 1)", "step(1, 0)", "rule(0, 1, 2)", "rule(2, 0, 2)", "dropRule(0)",
            "rule(0, 1, 3)", "round(1)", "toggle(1)"};
        for (String call : calls) {
            String got = Ask.on(x, call);
            Check.is(call + " is answered, not " + got, got.startsWith("throws "), false);
        }
        return x;
    }

    private static final String[] WRONG_OF_RICH = {
        "node(-1, 0) I", "node(4, 0) I", "node(0, 13) S", "node(0, 11) S", "node(1, 10) S",
        "edge(-1, 0, 0) I", "edge(5, 0, 0) I", "edge(2, 0, 0) I", "edge(0, 0, 2) I", "edge(0, 0, 5) I", "edge(0, 4, 1) I",
        "edge(0, -1, 1) I", "edge(0, 1, 1) S", "edge(3, 1, 0) S", "edge(4, 1, 3) S",
        "set(2, 0) I", "set(5, 0) I", "set(-1, 0) I", "set(0, 11) S", "set(1, 13) S",
        "dropEdge(3) I", "dropEdge(4) I", "dropEdge(5) I", "dropEdge(6) I", "dropEdge(-1) I",
        "dropNode(2) I", "dropNode(5) I", "dropNode(-1) I", "key(-1) I", "key(4) I",
        "shape(-1, 0, 0) I", "shape(4, -1, 0) I", "shape(0, 0, 4) I", "shape(0, -2, 0) I", "shape(0, 0, -1) I",
        "shape(0, 0, 0) S", "shape(1, 1, 1) S", "shape(1, 0, 0) S",
        "move(2, 0) I", "move(0, 3) I", "move(0, -1) I", "move(0, 1) S", "move(1, 0) S", "move(4, 1) S",
        "toggle(3) I", "toggle(-1) I", "machine(2) I", "machine(5) I", "copies(3) I", "copies(-1) I",
        "write(1, 0, 0) I", "write(4, 0, 0) I", "write(-1, 0, 0) I", "write(0, 2, 0) I", "write(0, 5, 0) I",
        "link(1, 0, 0, 0) I", "link(0, 2, 0, 0) I", "link(0, 0, 0, 2) I", "link(0, 0, 4, 0) I", "link(0, 0, -1, 0) I",
        "unlink(1, 0) I", "unlink(0, 1) I", "unlink(0, 3) I", "unlink(0, 6) I", "unlink(0, -1) I",
        "read(1, 0) I", "read(0, 2) I", "sees(3, 0) I", "sees(0, 5) I", "commit(1, true) I", "commit(3, false) I",
        "commit(4, true) I", "commit(-1, true) I", "valueAt(0, -1) A", "valueAt(0, 99) A", "valueAt(2, 15) I",
        "valueAt(2, 2) I", "valueAt(5, 0) I", "sizeAt(-1) A", "sizeAt(99) A", "step(-1, 0) A", "step(6, 0) A",
        "step(0, 4) I", "step(1, -1) I", "step(2, 4) I", "step(3, 1) A", "step(5, -1) A", "pattern() S",
        "answer(1, 0) I", "answer(-1, 0) I", "answer(0, 2) I", "answerAnew(1, 0) I", "answerAnew(0, 5) I", "pairs(1) I",
        "isWhole(1, 0) I", "isWhole(0, 2) I", "rule(4, 0, 0) I", "rule(0, -1, 0) I", "rule(0, 0, 4) I", "dropRule(0) I",
        "dropRule(3) I", "dropRule(-1) I", "reasons(2, 0, 0) I", "reasons(0, 0, 5) I", "reasons(0, 4, 0) I",
        "walk(2, 0) I", "walk(0, -1) A", "walk(0, 31) A", "crossings(5, 0) I", "crossings(0, 31) A", "crossings(0, -1) A",
        "round(0) A", "round(31) A", "mark(2) I", "mark(5) I", "least(2) I", "least(-1) I"};

    /** 24 nodes, 60 edges, 4 open transactions of which one adds 8, 6 patterns, 12 steps, and 6 rules. */
    private static WeftStore full() {
        WeftStore x = Ask.nodes(24);
        for (int e = 0; e < 60; e++) {
            x.edge(e % 24, e % 4, e * 7 % 24);
        }
        for (int t = 0; t < 4; t++) {
            x.begin();
        }
        for (int i = 0; i < 8; i++) {
            x.link(3, i, 0, i + 1);
        }
        for (int p = 0; p < 6; p++) {
            x.step(p % 3, 0);
            x.pattern();
        }
        for (int i = 0; i < 12; i++) {
            x.step(i % 3, 0);
        }
        for (int r = 0; r < 6; r++) {
            x.rule(r % 4, 0, 3);
        }
        x.dropRule(1);
        return x;
    }

    private static final String[] WRONG_OF_FULL = {
        "node(0, 0) S", "node(4, 0) I", "edge(0, 0, 1) S", "edge(24, 0, 1) I", "edge(0, 4, 1) I", "edge(0, 0, 24) I",
        "begin() S", "link(3, 0, 0, 1) S", "link(3, 24, 0, 1) I", "link(3, 0, 4, 1) I", "step(0, 0) S", "step(3, 0) S",
        "step(5, 0) S", "step(0, 4) I", "step(4, 1) A", "step(6, 0) A", "pattern() S", "rule(0, 0, 0) S", "rule(4, 0, 0) I",
        "dropRule(1) I", "answer(6, 0) I", "answerAnew(0, 24) I", "pairs(6) I", "isWhole(6, 0) I", "walk(24, 31) I",
        "walk(23, 31) A", "mark(24) I", "unlink(3, 60) I", "dropEdge(60) I", "dropNode(24) I", "set(24, 0) I"};

    private static WeftStore down() {
        WeftStore x = rich();
        x.toggle(0);
        x.toggle(2);
        return x;
    }

    private static final String[] WRONG_OF_DOWN = {"node(0, 0) S", "node(4, 0) I", "node(0, 11) S", "move(0, 0) S",
        "move(4, 2) S", "move(2, 0) I", "move(0, 3) I", "walk(0, 31) A", "walk(2, 31) I", "crossings(0, -1) A"};

    private static final String[] WRONG_OF_NEW = {"node(4, 0) I", "edge(0, 0, 0) I", "set(0, 0) I", "dropEdge(0) I",
        "dropNode(0) I", "key(4) I", "shape(4, 0, 0) I", "move(0, 0) I", "toggle(3) I", "machine(0) I", "copies(3) I",
        "write(0, 0, 0) I", "link(0, 0, 0, 0) I", "unlink(0, 0) I", "read(0, 0) I", "sees(0, 0) I", "commit(0, true) I",
        "valueAt(0, 0) I", "valueAt(0, 1) A", "sizeAt(1) A", "step(3, 0) S", "step(4, 0) S", "step(5, 0) S",
        "pattern() S", "answer(0, 0) I", "answerAnew(0, 0) I", "pairs(0) I", "isWhole(0, 0) I", "dropRule(0) I",
        "reasons(0, 0, 0) I", "walk(0, 0) I", "crossings(0, 0) I", "round(0) A", "mark(0) I", "least(0) I"};

    /** A call with the letter of what is due: I, A or S. */
    private static void throwsAsTold(WeftStore x, String told) {
        int end = told.length() - 2;
        char letter = told.charAt(end + 1);
        String due = letter == 'I' ? Ask.INDEX : letter == 'A' ? Ask.ARGUMENT : Ask.STATE;
        Check.same(told.substring(0, end), Ask.on(x, told.substring(0, end)), due);
    }

    /** Answers by which two stores can be told apart: of calls that read, and then of calls that change. */
    private static List<String> answers(WeftStore x) {
        List<String> found = new ArrayList<>();
        int now = x.time();
        for (int t = 0; t <= now; t += 1 + now / 20) {
            found.add("size " + x.sizeAt(t));
        }
        for (int n = 0; n < 24; n += 1 + now / 20) {
            for (String call : new String[] {"machine(?)", "mark(?)", "valueAt(?, " + now + ")", "read(0, ?)", "sees(0, ?)",
                "read(2, ?)", "sees(3, ?)", "answer(0, ?)", "walk(?, 3)", "crossings(?, 3)", "least(?)"}) {
                found.add(call + Ask.on(x, call.replace("?", String.valueOf(n))));
            }
        }
        String[] calls = {"time()", "cut()", "copies(0)", "copies(1)", "copies(2)", "inferred()", "pairs(0)",
            "reasons(0, 0, 1)", "reasons(0, 2, 3)", "isWhole(0, 0)", "round(1)", "mark(1)", "mark(3)", "mark(4)", "begin()",
            "commit(0, true)", "commit(1, true)", "commit(2, true)", "commit(3, true)", "time()", "step(3, 0)", "step(4, 0)",
            "pattern()", "step(0, 0)", "pattern()", "pairs(1)", "rule(0, 0, 1)", "inferred()", "dropRule(0)", "dropRule(1)",
            "inferred()", "node(0, 13)", "node(0, 14)", "edge(0, 1, 1)", "edge(0, 0, 1)", "shift()", "cut()", "key(0)",
            "key(1)", "key(2)", "node(2, 14)", "shape(1, -1, 0)", "edge(0, 1, 1)", "move(0, 0)", "toggle(0)", "toggle(1)",
            "toggle(2)", "dropEdge(0)", "dropNode(0)", "time()", "round(2)"};
        for (String call : calls) {
            found.add(call + " " + Ask.on(x, call));
        }
        return found;
    }

    private static void changesNothing(String what, Supplier<WeftStore> made, String[] wrong) {
        Doc.terms("A call that throws an exception changes nothing");
        List<String> due = answers(made.get());
        for (String told : wrong) {
            WeftStore x = made.get();
            throwsAsTold(x, told);
            throwsAsTold(x, told);
            Check.same(what + ", behind " + told, answers(x).toString(), due.toString());
        }
    }

    private static void forWhatDoesNotExist() {
        Doc.terms("IndexOutOfBoundsException is thrown for a node, edge, label, machine, pattern or transaction that does");
        Doc.terms("(a node or edge that went does not;");
        String[] wrong = {"set(5, 0) I", "dropEdge(6) I", "key(4) I", "toggle(3) I", "pairs(1) I", "commit(1, true) I",
            "set(2, 0) I", "dropEdge(3) I", "dropEdge(5) I"};
        for (String told : wrong) {
            throwsAsTold(rich(), told);
        }
    }

    private static void asOfATime() {
        Doc.terms("as of a time one that was not there then)");
        WeftStore x = Ask.nodes(2);
        x.begin();
        x.dropNode(0);
        x.node(0, 7);
        Check.eq("it was there then", x.valueAt(0, 2), 0);
        Check.eq("the transaction sees it", x.read(0, 0), 0);
        throwsAsTold(x, "valueAt(0, 0) I");
        throwsAsTold(x, "valueAt(0, 3) I");
        throwsAsTold(x, "valueAt(2, 3) I");
        throwsAsTold(x, "read(0, 2) I");
        throwsAsTold(x, "set(0, 0) I");
        Check.eq("it is there by now", x.valueAt(2, 4), 7);
    }

    private static void forWhatIsOutOfRange() {
        Doc.terms("IllegalArgumentException for another argument out of range");
        String[] wrong = {"sizeAt(-1) A", "sizeAt(99) A", "step(-1, 0) A", "step(6, 0) A", "step(3, 1) A", "walk(0, 31) A",
            "crossings(0, -1) A", "round(0) A", "round(31) A", "valueAt(0, 99) A"};
        for (String told : wrong) {
            throwsAsTold(rich(), told);
        }
    }

    private static void ifNotPossibleNow() {
        Doc.terms("and IllegalStateException if a call is not possible now");
        WeftStore x = Ask.nodes(2);
        x.key(0);
        throwsAsTold(x, "set(0, 1) S");
        x.set(1, 5);
        Check.eq("it is possible by now", x.set(0, 1), 0);
    }

    private static void whatDoesNotExistGoesFirst() {
        Doc.terms("If several apply, IndexOutOfBoundsException goes first");
        String[] rich = {"node(4, 13) I", "edge(2, 1, 1) I", "edge(0, 1, 2) I", "edge(3, 4, 0) I", "set(2, 11) I",
            "shape(4, 1, 1) I", "shape(1, 1, 4) I", "shape(1, 4, 0) I", "move(2, 1) I", "move(1, 3) I", "walk(2, 31) I",
            "walk(5, -1) I", "crossings(2, 31) I", "crossings(-1, -1) I"};
        for (String told : rich) {
            throwsAsTold(rich(), told);
        }
        String[] full = {"node(4, 0) I", "edge(24, 0, 0) I", "edge(0, 0, -1) I", "edge(0, 4, 0) I", "link(3, 24, 0, 0) I",
            "link(3, 0, 0, 24) I", "link(3, 0, -1, 0) I", "step(0, 4) I", "step(1, -1) I", "step(2, 4) I", "rule(0, 4, 0) I"};
        for (String told : full) {
            throwsAsTold(full(), told);
        }
        throwsAsTold(down(), "node(4, 0) I");
        throwsAsTold(down(), "move(2, 0) I");
        throwsAsTold(down(), "move(0, 3) I");
    }

    private static void whatIsOutOfRangeGoesNext() {
        Doc.terms("then IllegalArgumentException");
        String[] full = {"step(3, 1) A", "step(4, -1) A", "step(5, 4) A", "step(6, 0) A", "step(-1, 0) A"};
        for (String told : full) {
            throwsAsTold(full(), told);
        }
        String[] ofNew = {"step(3, 1) A", "step(4, 2) A", "step(5, 3) A"};
        for (String told : ofNew) {
            throwsAsTold(new WeftStore(), told);
        }
    }
}
