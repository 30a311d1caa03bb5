import java.util.function.Supplier;

/** Stores to begin with, and calls that are told as text, such as "edge(0, ?, 1)" with a number for the "?". */
final class Ask {
    static final String INDEX = "throws java.lang.IndexOutOfBoundsException";
    static final String ARGUMENT = "throws java.lang.IllegalArgumentException";
    static final String STATE = "throws java.lang.IllegalStateException";
    private static final int MIN = Integer.MIN_VALUE;
    private static final int MAX = Integer.MAX_VALUE;

    private Ask() {
    }

    /** Nodes with the label 0, each with its number as its value, on the machines 0, 1, 2, 0, 1 and so on. */
    static WeftStore nodes(int count) {
        WeftStore x = new WeftStore();
        for (int n = 0; n < count; n++) {
            x.node(0, n);
        }
        return x;
    }

    /** Nodes with edges with the label 0, from each to the next one. */
    static WeftStore row(int count) {
        WeftStore x = nodes(count);
        for (int n = 0; n + 1 < count; n++) {
            x.edge(n, 0, n + 1);
        }
        return x;
    }

    static Calls.Call call(String text) {
        String name = text.substring(0, text.indexOf('('));
        String list = text.substring(name.length() + 1, text.length() - 1).trim();
        String[] words = list.isEmpty() ? new String[0] : list.split(", ");
        int[] arguments = new int[words.length];
        for (int i = 0; i < words.length; i++) {
            boolean isFlag = words[i].equals("true") || words[i].equals("false");
            arguments[i] = isFlag ? (words[i].equals("true") ? 1 : 0) : Integer.parseInt(words[i]);
        }
        return new Calls.Call(name, arguments);
    }

    static String on(WeftStore x, String text) {
        return call(text).on(x);
    }

    /** The call is answered with each of the numbers, each time on a store of its own. */
    static void right(Supplier<WeftStore> made, String text, int... numbers) {
        for (int number : numbers) {
            String asked = text.replace("?", String.valueOf(number));
            String got = on(made.get(), asked);
            Check.is(asked + " is answered, not " + got, got.startsWith("throws "), false);
        }
    }

    /** The call throws with each of the numbers, each time on a store of its own. */
    static void wrong(String thrown, Supplier<WeftStore> made, String text, int... numbers) {
        for (int number : numbers) {
            String asked = text.replace("?", String.valueOf(number));
            Check.same(asked, on(made.get(), asked), thrown);
        }
    }

    /** The numbers from the lowest to the highest are right, all below and above throw. */
    static void range(String thrown, Supplier<WeftStore> made, String text, int lowest, int highest) {
        for (int number = lowest; number <= highest; number++) {
            right(made, text, number);
        }
        wrong(thrown, made, text, lowest - 1, highest + 1, MIN, MAX);
    }
}
