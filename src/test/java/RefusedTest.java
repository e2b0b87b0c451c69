import java.util.ArrayList;
import java.util.Arrays;
import java.util.List;

/**
 * Of every call of the face and each of its arguments: what lies just outside the least and the greatest is refused as
 * the document says and changes nothing, the least and the greatest are not refused. And calls that only tell change nothing.
 */
public final class RefusedTest {
    /** Each call: its name, what it answers as it refuses, good arguments, and the least and the greatest of each. */
    private static final class Limits {
        final String name;
        final int refusal;
        final int[] good;
        final int[] least;
        final int[] greatest;

        Limits(String name, int refusal, int[] good, int[] least, int[] greatest) {
            this.name = name;
            this.refusal = refusal;
            this.good = good;
            this.least = least;
            this.greatest = greatest;
        }

        String with(int argument, int value) {
            int[] a = good.clone();
            a[argument] = value;
            String text = Arrays.toString(a);
            return name + "(" + text.substring(1, text.length() - 1) + ")";
        }
    }

    private static final Limits[] LIMITS = {
        new Limits("entry", -1, row(3, 4, 1, 5, 6), row(0, 0, 0, 0, 0), row(11, 7, 2, 11, 15)),
        new Limits("entry", -1, row(3, 4, 2, 500, 6), row(0, 0, 0, 0, 0), row(11, 7, 2, 999, 15)),
        new Limits("marks", -1, row(2, 3, 1), row(0, 0, 0), row(11, 7, 3)),
        new Limits("root", -2, row(2, 5), row(0, -1), row(5, 11)),
        new Limits("current", -1, row(0), row(0), row(5)),
        new Limits("access", -1, row(3, 0), row(0, 0), row(511, 7)),
        new Limits("would", -1, row(3, 0), row(0, 0), row(511, 7)),
        new Limits("steps", -1, row(3, 0), row(0, 0), row(511, 7)),
        new Limits("begin", -1, row(1, 3, 0, 0), row(0, 0, 0, 0), row(3, 511, 7, 1)),
        new Limits("begin", -1, row(2, 3, 0, 1), row(0, 0, 0, 0), row(3, 511, 7, 1)),
        new Limits("turn", -1, row(0), row(0), row(3)),
        new Limits("walker", -1, row(0, 0), row(0, 0), row(3, 5)),
        new Limits("fence", -1, row(3, 0), row(0, 0), row(511, 5)),
        new Limits("fenceSpace", -1, row(0), row(0), row(5)),
        new Limits("way", -1, row(0, 3, 0), row(0, 0, 0), row(5, 511, 3)),
        new Limits("of", -1, row(2, 3, 0), row(0, 0, 0), row(11, 7, 3)),
        new Limits("cached", Run.THROWN, row(0, 0), row(0, 0), row(5, 7)),
        new Limits("upper", Run.THROWN, row(0, 0), row(0, 0), row(5, 6)),
        new Limits("permitted", 0, row(0, 511, 1062), row(0, 0, 0), row(5, 511, 1062)),
        new Limits("many", -1, row(0, 3), row(0, 0), row(5, 511)),
        new Limits("reverse", -1, row(0, 100, -1), row(0, Integer.MIN_VALUE, -1), row(5, Integer.MAX_VALUE, Integer.MAX_VALUE)),
        new Limits("through", -1, row(0, 2, 3), row(0, 0, 0), row(5, 11, 7)),
        new Limits("space", -1, row(0, 0), row(0, 0), row(5, 2)),
        new Limits("count", -1, row(1), row(0), row(13))};

    /** Tables, roots of spaces 0 to 2 and their tags; both caches full; walkers going, done, faulted and aborted. */
    private static final String[] BUSY = {
        "root(0, 0)", "root(1, 0)", "root(2, 6)", "entry(0, 0, 1, 1, 7)", "entry(1, 0, 1, 2, 7)", "entry(1, 1, 2, 300, 15)",
        "entry(2, 0, 2, 100, 7)", "entry(2, 1, 1, 3, 7)", "entry(2, 3, 2, 101, 7)", "entry(0, 1, 1, 1, 7)",
        "entry(0, 7, 2, 999, 3)", "entry(6, 0, 1, 1, 7)", "entry(0, 2, 2, 200, 5)",
        "current(1)", "access(0, 0)", "access(3, 1)", "begin(3, 8, 0, false)", "current(0)", "access(3, 1)",
        "access(64, 0)", "fence(8, 5)", "current(2)", "access(3, 0)", "access(0, 1)", "current(0)", "begin(1, 128, 0, false)",
        "turn(1)", "begin(2, 200, 0, false)", "turn(2)", "begin(0, 67, 1, false)", "access(511, 1)", "access(8, 0)",
        "entry(2, 0, 2, 400, 7)"};

    public static void main(String[] args) {
        Check check = new Check();
        theBusyOne(check);
        refusals(check, new String[0]);
        refusals(check, BUSY);
        refusedInItsState(check);
        accepted(check);
        tellersChangeNothing(check);
        check.end();
    }

    private static int[] row(int... numbers) {
        return numbers;
    }

    /** That the machine of these tests is as busy as it is meant to be. */
    private static void theBusyOne(Check check) {
        new Run(check, "the busy machine").rows(BUSY).rows("count(1) = 6", "count(2) = 6", "walker(0, 0) = 1",
                "walker(1, 0) = 2", "walker(2, 0) = 3", "walker(3, 0) = 4", "space(0, 1) = 1", "space(1, 1) = 0",
                "space(2, 1) = 2", "space(3, 1) = -1", "count(0) = 0");
    }

    private static List<Integer> outside(int least, int greatest) {
        List<Integer> values = new ArrayList<>();
        if (least > Integer.MIN_VALUE) {
            values.add(least - 1);
            values.add(Integer.MIN_VALUE);
        }
        if (greatest < Integer.MAX_VALUE) {
            values.add(greatest + 1);
            values.add(Integer.MAX_VALUE);
        }
        return values;
    }

    private static void refusals(Check check, String[] recipe) {
        List<Integer> without = Twins.answers(check, recipe, null);
        for (Limits l : LIMITS) {
            for (int k = 0; k < l.good.length; k++) {
                boolean isFlag = l.name.equals("begin") && k == 3;
                if (!isFlag) {
                    for (int value : outside(l.least[k], l.greatest[k])) {
                        Twins.unchanged(check, recipe, without, l.refusal, l.with(k, value));
                    }
                }
            }
        }
    }

    /** Calls with good arguments that the state of the machine refuses. */
    private static void refusedInItsState(Check check) {
        List<Integer> without = Twins.answers(check, BUSY, null);
        String[] calls = {"marks(5, 5, 0)", "marks(11, 7, 3)", "current(3)", "current(5)", "begin(0, 3, 0, false)",
            "begin(0, 3, 0, true)", "turn(1)", "turn(2)", "turn(3)", "of(5, 5, 1)", "of(5, 5, 2)", "of(5, 5, 3)",
            "way(0, 200, 1)", "way(0, 200, 2)", "way(0, 200, 3)", "way(5, 0, 1)", "walker(0, 3)", "walker(1, 4)",
            "walker(2, 4)", "walker(3, 3)", "walker(3, 4)", "reverse(0, 100, 0)", "reverse(5, 0, 0)"};
        for (String call : calls) {
            Twins.unchanged(check, BUSY, without, -1, call);
        }
        List<Integer> ofNew = Twins.answers(check, new String[0], null);
        String[] ofNone = {"marks(0, 0, 0)", "current(0)", "current(5)", "access(0, 0)", "access(511, 7)", "would(0, 0)",
            "steps(0, 0)", "begin(0, 0, 0, false)", "begin(3, 511, 7, true)", "turn(0)", "turn(3)", "walker(0, 1)",
            "walker(0, 2)", "walker(0, 3)", "walker(0, 4)", "walker(3, 5)", "way(0, 0, 1)", "of(0, 0, 1)",
            "reverse(0, 0, 0)", "space(0, 0)", "space(0, 1)", "count(0)", "root(0, -1)"};
        for (String call : ofNone) {
            Twins.unchanged(check, new String[0], ofNew, -1, call);
        }
        for (int place = 0; place < 6; place++) {
            Twins.unchanged(check, new String[0], ofNew, Run.THROWN, "cached(" + place + ", 0)");
            Twins.unchanged(check, new String[0], ofNew, Run.THROWN, "upper(" + place + ", 0)");
        }
    }

    /** All six spaces have a root, no corner of the tables is none, both caches are full; the walkers go if asked for. */
    private static List<String> open(boolean going) {
        List<String> calls = new ArrayList<>(Arrays.asList(BUSY));
        for (int space = 3; space < 6; space++) {
            calls.add("root(" + space + ", 0)");
        }
        for (String corner : new String[] {"0, 3", "2, 7", "11, 3", "2, 4"}) {
            calls.add("entry(" + corner + ", 2, 1, 7)");
        }
        calls.add("fence(67, 5)");
        if (going) {
            for (int walker = 0; walker < 4; walker++) {
                calls.add("begin(" + walker + ", 300, 0, false)");
            }
        }
        return calls;
    }

    private static void accepted(Check check) {
        for (Limits l : LIMITS) {
            String[] recipe = open(l.name.equals("turn") || l.name.equals("walker")).toArray(new String[0]);
            for (int k = 0; k < l.good.length; k++) {
                boolean hasOtherLimits = l.name.equals("entry") && k == 2 || l.name.equals("permitted")
                        || l.name.equals("reverse") && k == 2;
                if (!hasOtherLimits) {
                    accepted(check, recipe, l, l.with(k, l.least[k]));
                    accepted(check, recipe, l, l.with(k, l.greatest[k]));
                }
            }
        }
    }

    private static void accepted(Check check, String[] recipe, Limits l, String call) {
        int answer = new Run(check, "accepted").rows(recipe).answer(call);
        check.no(call + " is refused", answer == l.refusal);
    }

    private static void tellersChangeNothing(Check check) {
        List<Integer> without = Twins.answers(check, BUSY, null);
        String[] calls = {"would(0, 0)", "would(3, 4)", "would(511, 1)", "would(200, 7)", "would(8, 1)", "steps(0, 0)",
            "steps(3, 4)", "steps(511, 1)", "steps(200, 7)", "steps(8, 1)", "walker(0, 0)", "walker(1, 3)", "way(0, 0, 0)",
            "way(2, 3, 3)", "of(0, 0, 1)", "cached(0, 7)", "cached(5, 6)", "upper(0, 6)", "upper(5, 5)",
            "permitted(0, 0, 100)", "permitted(1, 8, 300)", "many(0, 0)", "many(5, 511)", "reverse(0, 400, -1)",
            "through(0, 1, 0)", "space(0, 1)", "count(3)", "count(4)", "count(10)"};
        for (String call : calls) {
            int answer = new Run(check, "twins").rows(BUSY).answer(call);
            check.no(call + " is refused", answer == -1);
            Twins.unchanged(check, BUSY, without, answer, call);
        }
    }
}
