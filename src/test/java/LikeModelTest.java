import java.util.ArrayList;
import java.util.HashMap;
import java.util.List;
import java.util.Map;

/** All promises: many runs of 512 calls, each answer compared with that of the model. */
public final class LikeModelTest {
    public static void main(String[] args) {
        int runs = args.length > 0 ? Integer.parseInt(args[0]) : 400;
        Map<String, Integer> answers = new HashMap<>();
        for (int run = 0; run < runs; run++) {
            compare(run, answers);
        }
        // Runs that never came to an outcome would say nothing of it.
        String[] due = {"commit -1", "commit -2", "commit >=0", "shift -1", "shift >=0", "isWhole false", "isWhole true",
            "node throws java.lang.IllegalStateException", "edge throws java.lang.IllegalStateException",
            "set throws java.lang.IllegalStateException", "key throws java.lang.IllegalStateException",
            "shape throws java.lang.IllegalStateException", "link throws java.lang.IllegalStateException",
            "unlink null", "dropRule >=0", "step throws java.lang.IllegalStateException"};
        for (String outcome : due) {
            Check.is("some run comes to " + outcome, answers.getOrDefault(outcome, 0) > 0, true);
        }
        if (args.length > 0) {
            answers.entrySet().stream().sorted(Map.Entry.comparingByKey())
                    .forEach(e -> System.out.println(e.getKey() + ": " + e.getValue()));
        }
        Check.end();
    }

    private static void compare(int run, Map<String, Integer> answers) {
        WeftStore store = new WeftStore();
        Model model = new Model();
        Calls calls = new Calls(run + 1);
        List<String> told = new ArrayList<>();
        for (int i = 0; i < 512; i++) {
            Calls.Call call = calls.next();
            String due = call.on(model);
            String got = call.on(store);
            told.add(call + " = " + got);
            calls.saw(call, due);
            String kind = due.matches("\\d+") ? ">=0" : due;
            answers.merge(call.name() + " " + kind, 1, Integer::sum);
            if (!got.equals(due)) {
                Check.tell("run " + run + ", call " + i + ": " + call + " answered " + got + ", due is " + due);
                Check.tell(String.join("\n  ", told));
                return;
            }
        }
        Check.eq("time() of run " + run, store.time(), model.time());
    }
}
