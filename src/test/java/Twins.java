import java.util.ArrayList;
import java.util.List;

/**
 * Whether a call leaves a machine as it was: the same calls are made on new objects, once with that call behind them
 * and once without, and all that can be asked is asked of both. The questions are many, so they are dealt out to as
 * many objects as it takes to stay within the 512 calls of each.
 */
final class Twins {
    private static final int[] ADDRESSES = {0, 1, 3, 7, 8, 63, 64, 127, 128, 200, 448, 511};
    private static final int[] FRAMES = {0, 100, 101, 163, 300, 999, 1062};
    /** What the calls that change something say afterwards, so that what no question shows is seen, too. */
    private static final String[] AFTERWARDS = {"turn(0)", "turn(1)", "turn(2)", "turn(3)", "turn(0)", "turn(0)",
        "access(0, 0)", "access(3, 1)", "access(511, 0)", "access(128, 2)", "root(3, 3)", "root(4, 4)", "root(5, 0)",
        "current(3)", "space(0, 1)", "space(1, 1)", "space(2, 1)", "current(4)", "space(0, 1)", "space(1, 1)",
        "space(2, 1)", "access(0, 0)", "current(5)", "access(3, 0)", "count(1)", "count(2)", "count(6)", "count(7)",
        "count(8)", "begin(0, 3, 1, false)", "begin(1, 3, 1, true)", "turn(0)", "turn(1)", "turn(0)", "turn(1)",
        "count(10)", "fence(3, 0)", "fenceSpace(5)", "fenceAll()", "count(11)", "count(12)", "count(13)"};

    private Twins() {
    }

    static List<String> questions() {
        List<String> all = new ArrayList<>();
        each(all, "count", 14);
        each(all, "space", 6, 3);
        each(all, "cached", 6, 8);
        each(all, "upper", 6, 7);
        each(all, "walker", 4, 6);
        each(all, "of", 12, 8, 4);
        each(all, "through", 6, 12, 8);
        for (int address : ADDRESSES) {
            for (int n = 0; n < 8; n++) {
                all.add("would(" + address + ", " + n + ")");
                all.add("steps(" + address + ", " + n + ")");
            }
            for (int space = 0; space < 6; space++) {
                for (int what = 0; what < 4; what++) {
                    all.add("way(" + space + ", " + address + ", " + what + ")");
                }
                all.add("many(" + space + ", " + address + ")");
                for (int frame : FRAMES) {
                    all.add("permitted(" + space + ", " + address + ", " + frame + ")");
                }
            }
        }
        for (int frame : FRAMES) {
            for (int space = 0; space < 6; space++) {
                all.add("reverse(" + space + ", " + frame + ", -1)");
                all.add("reverse(" + space + ", " + frame + ", 0)");
            }
        }
        return all;
    }

    private static void each(List<String> all, String name, int... below) {
        int[] at = new int[below.length];
        boolean more = true;
        while (more) {
            StringBuilder call = new StringBuilder(name).append('(');
            for (int k = 0; k < at.length; k++) {
                call.append(k == 0 ? "" : ", ").append(at[k]);
            }
            all.add(call.append(')').toString());
            int k = at.length - 1;
            while (k >= 0 && ++at[k] == below[k]) {
                at[k] = 0;
                k--;
            }
            more = k >= 0;
        }
    }

    /** The answers to all questions, and those of what is done afterwards. */
    static List<Integer> answers(Check check, String[] recipe, String extra) {
        List<Integer> told = new ArrayList<>();
        Run run = null;
        for (String question : questions()) {
            if (run == null || run.made() == Run.CALLS) {
                run = made(check, recipe, extra);
            }
            told.add(run.answer(question));
        }
        run = made(check, recipe, extra);
        for (String call : AFTERWARDS) {
            told.add(run.answer(call));
        }
        return told;
    }

    private static Run made(Check check, String[] recipe, String extra) {
        Run run = new Run(check, "twins").rows(recipe);
        if (extra != null) {
            run.answer(extra);
        }
        return run;
    }

    /** Asks that the call answers this behind the recipe, and that the machine is as without it (those are its answers). */
    static void unchanged(Check check, String[] recipe, List<Integer> without, int due, String call) {
        check.is(call, due, new Run(check, "twins").rows(recipe).answer(call));
        List<Integer> with = answers(check, recipe, call);
        List<String> asked = questions();
        for (int k = 0; k < with.size(); k++) {
            String question = k < asked.size() ? asked.get(k) : "afterwards " + AFTERWARDS[k - asked.size()];
            if (!with.get(k).equals(without.get(k))) {
                check.is("behind " + call + ": " + question, without.get(k), with.get(k));
                return;
            }
        }
    }
}
