import java.util.ArrayList;
import java.util.List;
import java.util.Random;

/** Promises 25 to 34: drawn patterns of up to 12 steps, over drawn graphs and rules, compared with the model. */
public final class DrawnPatternsTest {
    private static final int STEPS = 12;
    private final Random random;
    private final WeftStore store = new WeftStore();
    private final Model model = new Model();
    private final List<String> told = new ArrayList<>();
    private final int nodes;
    private int answersWithNodes = 0;
    private int answersInPart = 0;

    private DrawnPatternsTest(long seed) {
        random = new Random(seed);
        nodes = 1 + random.nextInt(24);
    }

    public static void main(String[] args) {
        int runs = args.length > 0 ? Integer.parseInt(args[0]) : 150;
        int withNodes = 0;
        int inPart = 0;
        for (int run = 0; run < runs; run++) {
            DrawnPatternsTest test = new DrawnPatternsTest(run);
            test.drawGraph();
            for (int p = 0; p < 6; p++) {
                test.drawPattern();
            }
            for (int i = 0; i < 40; i++) {
                test.ask();
                test.change();
            }
            withNodes += test.answersWithNodes;
            inPart += test.answersInPart;
        }
        // Runs that never came to these would say nothing of them.
        Check.is("more than 10 answers a run with nodes", withNodes > 10 * runs, true);
        Check.is("more than 1 answer a run that is not whole", inPart > runs, true);
        Check.end();
    }

    private String both(String name, int... arguments) {
        Calls.Call call = new Calls.Call(name, arguments);
        String due = call.on(model);
        told.add(call + " = " + due);
        String got = call.on(store);
        Check.same(call.toString(), got, due);
        if (!got.equals(due)) {
            Check.tell(String.join("\n  ", told));
        }
        return due;
    }

    private int node() {
        return random.nextInt(nodes);
    }

    private int label() {
        return random.nextInt(4);
    }

    private void drawGraph() {
        for (int n = 0; n < nodes; n++) {
            both("node", label(), random.nextInt(5));
        }
        int labels = 1 + label();
        int edges = random.nextInt(61);
        for (int e = 0; e < edges; e++) {
            both("edge", node(), random.nextInt(labels), node());
        }
        int rules = random.nextBoolean() ? 0 : random.nextInt(7);
        for (int r = 0; r < rules; r++) {
            both("rule", label(), label(), label());
        }
    }

    private void drawPattern() {
        int wanted = 1 + random.nextInt(STEPS);
        int height = 0;
        for (int i = 0; i < STEPS && (i < wanted || height != 1); i++) {
            int kind = drawKind(height, STEPS - i);
            both("step", kind, kind <= WeftStore.NODE ? label() : 0);
            height += kind <= WeftStore.NODE ? 1 : kind <= WeftStore.EITHER ? -1 : 0;
        }
        both("pattern");
    }

    // A step that leaves steps enough to come to just one relation.
    private int drawKind(int height, int left) {
        for (int i = 0; i < 1000; i++) {
            int kind = random.nextInt(6);
            boolean isOpening = kind <= WeftStore.NODE && height < left;
            boolean isJoining = (kind == WeftStore.JOIN || kind == WeftStore.EITHER) && height >= 2;
            boolean isMany = kind == WeftStore.MANY && height >= 1 && height <= left;
            if (isOpening || isJoining || isMany) {
                return kind;
            }
        }
        return height >= 2 ? WeftStore.JOIN : WeftStore.MANY;
    }

    private void ask() {
        int pattern = random.nextInt(6);
        int node = node();
        answersWithNodes += both("answer", pattern, node).equals("0") ? 0 : 1;
        both("answerAnew", pattern, node);
        both("pairs", pattern);
        answersInPart += both("isWhole", pattern, node).equals("false") ? 1 : 0;
        both("inferred");
        both("reasons", node(), label(), node());
    }

    private void change() {
        switch (random.nextInt(12)) {
            case 0: case 1: both("toggle", random.nextInt(3)); break;
            case 2: case 3: both("dropEdge", random.nextInt(61)); break;
            case 4: both("dropNode", node()); break;
            case 5: both("dropRule", random.nextInt(6)); break;
            default: both("move", node(), random.nextInt(3)); break;
        }
    }
}
