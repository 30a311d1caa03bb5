import java.lang.reflect.InvocationTargetException;
import java.lang.reflect.Method;
import java.lang.reflect.Modifier;
import java.util.Arrays;

/** Makes calls of the face with arguments drawn from a seed, always the same for the same seed. */
final class Calls {
    /** The calls by name, with what each argument is. */
    private static final String[] FACE = {
        "node label value", "edge node label node", "set node value", "dropEdge edge", "dropNode node",
        "key label", "shape label from label", "move node machine", "shift", "toggle machine", "machine node",
        "cut", "copies machine", "begin", "write transaction node value", "link transaction node label node",
        "unlink transaction edge", "read transaction node", "sees transaction node", "commit transaction wanted",
        "time", "valueAt node time", "sizeAt time", "step kind label", "pattern", "answer pattern node",
        "answerAnew pattern node", "pairs pattern", "isWhole pattern node", "rule label label label",
        "dropRule rule", "inferred", "reasons node label node", "walk node steps", "crossings node steps",
        "round steps", "mark node", "least node"};
    private static final int[] WRONG = {-1, -2, 3, 4, 24, 25, 31, 60, 61, 1000, Integer.MAX_VALUE, Integer.MIN_VALUE};

    private final int[] weights = new int[FACE.length];
    private final int labels;
    private final int values;
    private final int wrongOutOf;
    private int weightOfAll = 0;
    private long seed;

    /** What the arguments are drawn from grows with the calls, so that most of them are right. */
    int nodes = 1;
    int edges = 1;
    int time = 1;
    int patterns = 1;
    int rules = 1;

    Calls(long seed) {
        this.seed = seed * 0x9E3779B97F4A7C15L + 0x632BE59BD9B4E019L;
        labels = 1 + below(4);
        values = 2 + below(30);
        wrongOutOf = 10 + below(200);
        for (int i = 0; i < FACE.length; i++) {
            weights[i] = 1 + below(1 + below(12));
            if (FACE[i].startsWith("node")) {
                weights[i] = 4 + below(10);
            } else if (FACE[i].startsWith("edge")) {
                weights[i] = 4 + below(20);
            } else if (FACE[i].startsWith("dropNode") || FACE[i].startsWith("toggle")) {
                weights[i] = 1 + below(2);
            }
            weightOfAll += weights[i];
        }
    }

    int below(int bound) {
        seed ^= seed << 13;
        seed ^= seed >>> 7;
        seed ^= seed << 17;
        return (int) Math.floorMod(seed >>> 8, (long) bound);
    }

    private int argument(String what, int kind) {
        if (below(wrongOutOf) == 0) {
            return WRONG[below(WRONG.length)];
        }
        switch (what) {
            case "label": return kind >= 3 ? 0 : below(labels);
            case "from": return below(3) == 0 ? -1 : below(labels);
            case "value": return below(values);
            case "node": return below(nodes);
            case "edge": return below(edges);
            case "machine": return below(3);
            case "transaction": return below(3) == 0 ? below(4) : below(2);
            case "wanted": return below(8) == 0 ? 0 : 1;
            case "time": return below(time);
            case "kind": return below(6);
            case "pattern": return below(patterns);
            case "rule": return below(rules);
            default: return 1 + below(below(3) == 0 ? 30 : 4);
        }
    }

    /** A call: its name and its arguments. */
    record Call(String name, int[] arguments) {
        @Override
        public String toString() {
            String list = Arrays.toString(arguments);
            return name + "(" + list.substring(1, list.length() - 1) + ")";
        }

        /** The answer; what is thrown counts by the very name of its class. */
        String on(Object target) {
            try {
                Method method = methodOf(target.getClass());
                Object[] given = new Object[arguments.length];
                for (int i = 0; i < given.length; i++) {
                    boolean isFlag = method.getParameterTypes()[i] == boolean.class;
                    given[i] = isFlag ? (Object) (arguments[i] != 0) : (Object) arguments[i];
                }
                return String.valueOf(method.invoke(target, given));
            } catch (InvocationTargetException e) {
                return "throws " + e.getCause().getClass().getName();
            } catch (IllegalAccessException e) {
                return "cannot be called";
            }
        }

        private Method methodOf(Class<?> type) {
            for (Method m : type.getDeclaredMethods()) {
                if (m.getName().equals(name) && !Modifier.isPrivate(m.getModifiers())) {
                    return m;
                }
            }
            throw new IllegalStateException("no method " + name);
        }
    }

    Call next() {
        int drawn = below(weightOfAll);
        int i = 0;
        while (drawn >= weights[i]) {
            drawn -= weights[i];
            i++;
        }
        String[] words = FACE[i].split(" ");
        int[] arguments = new int[words.length - 1];
        for (int a = 0; a < arguments.length; a++) {
            int kind = words[0].equals("step") && a == 1 ? arguments[0] : 0;
            arguments[a] = argument(words[a + 1], kind);
        }
        return new Call(words[0], arguments);
    }

    /** Takes note of an answer, for the arguments to come. */
    void saw(Call call, String answer) {
        if (!answer.matches("-?\\d+")) {
            return;
        }
        int number = Integer.parseInt(answer);
        switch (call.name) {
            case "node": nodes = number + 1; break;
            case "edge": edges = number + 1; break;
            case "time": time = number + 1; break;
            case "commit": time = Math.max(time, number + 1); edges = Math.min(60, edges + 1); break;
            case "dropEdge": time = number + 1; break;
            case "pattern": patterns = number + 1; break;
            case "rule": rules = number + 1; break;
            default: break;
        }
    }
}
