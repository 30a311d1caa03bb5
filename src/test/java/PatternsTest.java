/** Promises 25 to 30: step, pattern, answer, answerAnew, pairs, isWhole. */
public final class PatternsTest {
    public static void main(String[] args) {
        steps();
        stepsAtMost();
        patterns();
        simple();
        joined();
        either();
        many();
        manyOfMore();
        overInferredEdges();
        overMachinesThatAreUp();
        over24();
        wrongOnes();
        Check.end();
    }

    private static void put(WeftStore x, int... kindsAndLabels) {
        for (int i = 0; i + 1 < kindsAndLabels.length; i += 2) {
            x.step(kindsAndLabels[i], kindsAndLabels[i + 1]);
        }
        x.pattern();
    }

    private static void answers(WeftStore x, int pattern, int... due) {
        int pairs = 0;
        for (int n = 0; n < due.length; n++) {
            if (due[n] >= 0) {
                Check.eq("answer(" + pattern + ", " + n + ")", x.answer(pattern, n), due[n]);
                Check.eq("answerAnew(" + pattern + ", " + n + ")", x.answerAnew(pattern, n), due[n]);
                pairs += Integer.bitCount(due[n]);
            }
        }
        Check.eq("pairs(" + pattern + ")", x.pairs(pattern), pairs);
    }

    private static void steps() {
        WeftStore x = new WeftStore();
        Check.badArgument("step(-1, 0)", () -> x.step(-1, 0));
        Check.badArgument("step(6, 9), the kind goes first", () -> x.step(6, 9));
        for (int kind = 0; kind <= 2; kind++) {
            int k = kind;
            Check.noNode("step(kind, -1)", () -> x.step(k, -1));
            Check.noNode("step(kind, 4)", () -> x.step(k, 4));
        }
        for (int kind = 3; kind <= 5; kind++) {
            int k = kind;
            Check.badArgument("step(kind, 1), too few as well", () -> x.step(k, 1));
            Check.badArgument("step(kind, -1)", () -> x.step(k, -1));
            Check.notNow("step(kind, 0), too few", () -> x.step(k, 0));
        }
        Check.eq("step(EDGE, 3)", x.step(WeftStore.EDGE, 3), 1);
        Check.notNow("JOIN takes two", () -> x.step(WeftStore.JOIN, 0));
        Check.notNow("EITHER takes two", () -> x.step(WeftStore.EITHER, 0));
        Check.eq("MANY takes one", x.step(WeftStore.MANY, 0), 1);
        Check.eq("step(BACK, 0)", x.step(WeftStore.BACK, 0), 2);
        Check.eq("step(NODE, 2)", x.step(WeftStore.NODE, 2), 3);
        Check.eq("step(JOIN, 0)", x.step(WeftStore.JOIN, 0), 2);
        Check.eq("step(EITHER, 0)", x.step(WeftStore.EITHER, 0), 1);
        Check.eq("pattern()", x.pattern(), 0);
        Check.eq("the draft is empty then", x.step(WeftStore.EDGE, 0), 1);
    }

    private static void stepsAtMost() {
        WeftStore x = new WeftStore();
        for (int i = 1; i <= 12; i++) {
            Check.eq("step(EDGE, 0)", x.step(0, 0), i);
        }
        Check.notNow("there are 12", () -> x.step(0, 0));
        Check.notNow("there are 12", () -> x.step(3, 0));
        Check.noNode("step(0, 4), there are 12", () -> x.step(0, 4));
        Check.badArgument("step(3, 4), there are 12", () -> x.step(3, 4));
        Check.notNow("pattern()", () -> x.pattern());
        WeftStore y = new WeftStore();
        y.node(0, 0);
        y.step(2, 0);
        for (int i = 0; i < 11; i++) {
            Check.eq("step(MANY, 0)", y.step(5, 0), 1);
        }
        Check.notNow("there are 12", () -> y.step(5, 0));
        Check.eq("pattern()", y.pattern(), 0);
        Check.eq("answerAnew(0, 0)", y.answerAnew(0, 0), 1);
        Check.eq("answer(0, 0)", y.answer(0, 0), 1);
    }

    private static void patterns() {
        WeftStore x = new WeftStore();
        Check.notNow("pattern(), none", () -> x.pattern());
        x.step(0, 0);
        x.step(0, 1);
        Check.notNow("pattern(), two", () -> x.pattern());
        Check.eq("the draft stays", x.step(4, 0), 1);
        Check.eq("pattern()", x.pattern(), 0);
        Check.notNow("pattern(), none", () -> x.pattern());
        for (int i = 1; i < 6; i++) {
            x.step(2, 0);
            Check.eq("pattern()", x.pattern(), i);
        }
        Check.eq("a draft all the same", x.step(2, 0), 1);
        Check.notNow("there are 6", () -> x.pattern());
        Check.eq("the draft stays", x.step(2, 0), 2);
        Check.noNode("pairs(6)", () -> x.pairs(6));
        Check.eq("pairs(5)", x.pairs(5), 0);
    }

    /** 0 to 3 in a row by the label 0, 1 to 4 by the label 1, twice; nodes 0, 2 and 4 with the label 0. */
    private static WeftStore row() {
        WeftStore x = new WeftStore();
        for (int n = 0; n < 5; n++) {
            x.node(n % 2, n);
        }
        x.edge(0, 0, 1);
        x.edge(1, 0, 2);
        x.edge(2, 0, 3);
        x.edge(1, 1, 4);
        x.edge(1, 1, 4);
        return x;
    }

    private static void simple() {
        WeftStore x = row();
        put(x, 0, 0);
        put(x, 1, 0);
        put(x, 2, 0);
        put(x, 0, 1);
        put(x, 1, 1);
        put(x, 0, 3);
        answers(x, 0, 2, 4, 8, 0, 0);
        answers(x, 1, 0, 1, 2, 4, 0);
        answers(x, 2, 1, 0, 4, 0, 16);
        answers(x, 3, 0, 16, 0, 0, 0);
        answers(x, 4, 0, 0, 0, 0, 2);
        answers(x, 5, 0, 0, 0, 0, 0);
        x.edge(3, 3, 3);
        answers(x, 5, 0, 0, 0, 8, 0);
        x.dropNode(1);
        answers(x, 0, 0, -1, 8, 0, 0);
        answers(x, 3, 0, -1, 0, 0, 0);
    }

    private static void joined() {
        WeftStore x = row();
        put(x, 0, 0, 0, 1, 3, 0);
        put(x, 0, 0, 1, 0, 3, 0);
        put(x, 0, 0, 2, 0, 3, 0);
        put(x, 2, 0, 0, 0, 3, 0);
        put(x, 0, 0, 0, 0, 0, 0, 3, 0, 3, 0);
        answers(x, 0, 16, 0, 0, 0, 0);
        answers(x, 1, 1, 2, 4, 0, 0);
        answers(x, 2, 0, 4, 0, 0, 0);
        answers(x, 3, 2, 0, 8, 0, 0);
        answers(x, 4, 8, 0, 0, 0, 0);
    }

    private static void either() {
        WeftStore x = row();
        put(x, 0, 0, 0, 1, 4, 0);
        put(x, 0, 0, 1, 0, 4, 0);
        put(x, 2, 0, 2, 1, 4, 0);
        put(x, 0, 0, 1, 0, 4, 0, 5, 0);
        answers(x, 0, 2, 20, 8, 0, 0);
        answers(x, 1, 2, 5, 10, 4, 0);
        answers(x, 2, 1, 2, 4, 8, 16);
        answers(x, 3, 15, 15, 15, 15, 16);
    }

    private static void many() {
        WeftStore x = row();
        put(x, 0, 0, 5, 0);
        put(x, 1, 0, 5, 0);
        put(x, 2, 0, 5, 0);
        put(x, 0, 0, 5, 0, 2, 0, 3, 0);
        put(x, 0, 0, 5, 0, 5, 0);
        answers(x, 0, 15, 14, 12, 8, 16);
        answers(x, 1, 1, 3, 7, 15, 16);
        answers(x, 2, 1, 2, 4, 8, 16);
        answers(x, 3, 5, 4, 4, 0, 16);
        answers(x, 4, 15, 14, 12, 8, 16);
        x.edge(3, 0, 0);
        answers(x, 0, 15, 15, 15, 15, 16);
        x.dropNode(0);
        answers(x, 0, -1, 14, 12, 8, 16);
    }

    private static void manyOfMore() {
        WeftStore x = new WeftStore();
        for (int n = 0; n < 7; n++) {
            x.node(0, 0);
        }
        for (int n = 0; n + 1 < 7; n++) {
            x.edge(n, n % 2, n + 1);
        }
        put(x, 0, 0, 0, 1, 3, 0, 5, 0);
        put(x, 0, 0, 0, 1, 3, 0, 5, 0, 0, 0, 4, 0);
        put(x, 0, 0, 5, 0, 0, 1, 3, 0, 5, 0, 0, 0, 3, 0, 5, 0);
        answers(x, 0, 85, 2, 84, 8, 80, 32, 64);
        answers(x, 1, 87, 2, 92, 8, 112, 32, 64);
        answers(x, 2, 43, 42, 44, 40, 48, 32, 64);
    }

    private static void overInferredEdges() {
        WeftStore x = row();
        put(x, 0, 2);
        put(x, 1, 2);
        put(x, 0, 2, 0, 2, 3, 0);
        answers(x, 0, 0, 0, 0, 0, 0);
        x.rule(0, 1, 2);
        x.rule(0, 0, 2);
        answers(x, 0, 20, 8, 0, 0, 0);
        answers(x, 1, 0, 0, 1, 2, 1);
        x.edge(2, 2, 1);
        answers(x, 2, 2, 0, 8, 0, 0);
        x.dropRule(0);
        answers(x, 0, 4, 8, 2, 0, 0);
    }

    private static void overMachinesThatAreUp() {
        WeftStore x = row();
        put(x, 0, 0, 5, 0);
        put(x, 0, 0, 1, 0, 4, 0);
        put(x, 2, 1);
        put(x, 0, 2);
        x.rule(0, 0, 2);
        Check.eq("machine(1)", x.machine(1), 1);
        Check.eq("machine(4)", x.machine(4), 1);
        x.toggle(1);
        answers(x, 0, 1, 0, 12, 8, 0);
        answers(x, 1, 0, 0, 8, 4, 0);
        answers(x, 2, 0, 0, 0, 8, 0);
        answers(x, 3, 4, 0, 0, 0, 0);
        boolean[] due = {false, false, true, true, false};
        for (int n = 0; n < due.length; n++) {
            Check.is("isWhole(0, " + n + ")", x.isWhole(0, n), due[n]);
        }
        Check.is("isWhole(1, 2)", x.isWhole(1, 2), false);
        Check.is("isWhole(1, 3)", x.isWhole(1, 3), true);
        Check.is("isWhole(2, 0), nothing either way", x.isWhole(2, 0), true);
        Check.is("isWhole(2, 1), it is not up", x.isWhole(2, 1), false);
        Check.is("isWhole(2, 4), not up, nothing either way", x.isWhole(2, 4), true);
        Check.is("isWhole(3, 0), by an inferred edge", x.isWhole(3, 0), true);
        Check.is("isWhole(3, 1)", x.isWhole(3, 1), false);
        x.toggle(1);
        Check.is("isWhole(0, 0), all are up", x.isWhole(0, 0), true);
        answers(x, 0, 15, 14, 12, 8, 16);
    }

    private static void over24() {
        WeftStore x = new WeftStore();
        for (int n = 0; n < 24; n++) {
            x.node(3, n);
        }
        for (int n = 0; n + 1 < 24; n++) {
            x.edge(n, 3, n + 1);
        }
        put(x, 0, 3, 5, 0);
        Check.eq("answer", x.answer(0, 0), 0xffffff);
        Check.eq("answerAnew", x.answerAnew(0, 0), 0xffffff);
        Check.eq("answer", x.answer(0, 23), 0x800000);
        Check.eq("pairs", x.pairs(0), 300);
        Check.eq("walk", x.walk(0, 23), 0xffffff);
        Check.eq("walk", x.walk(0, 22), 0x7fffff);
        x.edge(23, 3, 0);
        Check.eq("pairs", x.pairs(0), 576);
        Check.eq("answerAnew", x.answerAnew(0, 23), 0xffffff);
    }

    private static void wrongOnes() {
        WeftStore x = row();
        x.step(0, 0);
        Check.noNode("answer(0, 0), a draft is none", () -> x.answer(0, 0));
        x.pattern();
        x.dropNode(4);
        int[] none = {-1, 4, 5, 24, Integer.MAX_VALUE, Integer.MIN_VALUE};
        for (int n : none) {
            Check.noNode("answer(0, " + n + ")", () -> x.answer(0, n));
            Check.noNode("answerAnew(0, " + n + ")", () -> x.answerAnew(0, n));
            Check.noNode("isWhole(0, " + n + ")", () -> x.isWhole(0, n));
        }
        int[] noPattern = {-1, 1, 6, 7, Integer.MAX_VALUE};
        for (int p : noPattern) {
            Check.noNode("answer(" + p + ", 0)", () -> x.answer(p, 0));
            Check.noNode("answerAnew(" + p + ", 0)", () -> x.answerAnew(p, 0));
            Check.noNode("isWhole(" + p + ", 0)", () -> x.isWhole(p, 0));
            Check.noNode("pairs(" + p + ")", () -> x.pairs(p));
        }
    }
}
