/** Counts the answers that are not as due; a test's main method ends with {@link #end}. */
final class Check {
    private static int wrong = 0;
    private static int asked = 0;

    private Check() {
    }

    static void eq(String call, long got, long due) {
        asked++;
        if (got != due) {
            tell(call + " answered " + got + ", due is " + due);
        }
    }

    static void is(String call, boolean got, boolean due) {
        asked++;
        if (got != due) {
            tell(call + " answered " + got + ", due is " + due);
        }
    }

    static void same(String call, String got, String due) {
        asked++;
        if (!got.equals(due)) {
            tell(call + " answered " + got + ", due is " + due);
        }
    }

    static void noNode(String call, Runnable run) {
        raises(call, run, IndexOutOfBoundsException.class);
    }

    static void badArgument(String call, Runnable run) {
        raises(call, run, IllegalArgumentException.class);
    }

    static void notNow(String call, Runnable run) {
        raises(call, run, IllegalStateException.class);
    }

    // The very class is asked for: what the machine throws is a class below the one that is due.
    static void raises(String call, Runnable run, Class<?> due) {
        asked++;
        try {
            run.run();
            tell(call + " threw nothing, due is " + due.getName());
        } catch (RuntimeException e) {
            if (e.getClass() != due) {
                tell(call + " threw " + e.getClass().getName() + ", due is " + due.getName());
            }
        }
    }

    static void tell(String what) {
        wrong++;
        if (wrong <= 50) {
            System.out.println(what);
        }
    }

    static void end() {
        System.out.println(asked + " answers, " + wrong + " not as due");
        if (wrong != 0 || asked == 0) {
            System.exit(1);
        }
    }
}
