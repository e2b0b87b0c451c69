import java.util.Random;

/** An object up to its 512th call, and that no call ever throws what the document does not name. */
public final class LongRunTest {
    private static final int CALLS = 512;

    public static void main(String[] args) {
        Check check = new Check();
        changesUpToTheLast(check);
        accessesUpToTheLast(check);
        stepsUpToTheLast(check);
        fencesUpToTheLast(check);
        walkersUpToTheLast(check);
        tagsUpToTheLast(check);
        placesUpToTheLast(check);
        nothingElseIsThrown(check);
        check.end();
    }

    private static void changesUpToTheLast(Check check) {
        Run run = Run.of(check, "511 changes, then the 512th call", "root(0, 0)");
        while (run.made() < CALLS - 1) {
            run.row("entry(0, 0, 2, " + run.made() + ", 0)");
        }
        run.row("many(0, 0) = 41");
        run = Run.of(check, "510 changes", "root(0, 0)");
        while (run.made() < CALLS - 3) {
            run.row("entry(0, 0, 2, " + run.made() + ", 0)");
        }
        run.rows("permitted(0, 0, 508) = 1", "permitted(0, 0, 467) = 0", "count(10) = 40");
    }

    private static void accessesUpToTheLast(Check check) {
        Run run = Run.of(check, "508 ACCESSES, the 512th call tells how many", "root(0, 0)", "entry(0, 0, 2, 7, 7)", "current(0)");
        while (run.made() < CALLS - 1) {
            run.row("access(0, 1) = 7");
        }
        run.row("count(5) = 508");
        run = Run.of(check, "all but the first are HITS", "root(0, 0)", "entry(0, 0, 2, 7, 7)", "current(0)");
        while (run.made() < CALLS - 1) {
            run.row("access(0, 1) = 7");
        }
        run.row("count(6) = 507");
        run = Run.of(check, "all are FAULTS", "root(0, 0)", "current(0)");
        while (run.made() < CALLS - 1) {
            run.row("access(0, 1) = -4");
        }
        run.row("count(9) = 509");
    }

    private static void stepsUpToTheLast(Check check) {
        // Six steps each: all three entries are told anew and all places go ahead of every access.
        Run run = Run.of(check, "the most STEPS of 512 calls", "root(0, 0)", "entry(0, 0, 1, 1, 7)", "entry(1, 0, 1, 2, 7)",
                "entry(2, 0, 2, 7, 7)", "current(0)");
        int steps = 0;
        for (int n = 0; run.made() + 6 < CALLS; n++) {
            run.rows("access(0, 1) = 7", "marks(0, 0, 0) = 1", "marks(1, 0, 0) = 1", "marks(2, 0, 0) = 3", "fenceAll() = 3");
            steps += 6;
        }
        run.is(steps, "count(7)");
    }

    private static void fencesUpToTheLast(Check check) {
        Run run = Run.of(check, "FENCES of as many ADDRESSES as there are calls", "root(0, 0)", "root(5, 0)", "entry(0, 0, 2, 10, 0)",
                "entry(0, 7, 2, 10, 0)", "entry(0, 0, 2, 20, 0)", "entry(0, 7, 2, 20, 0)");
        for (int n = 0; run.made() < CALLS - 6; n++) {
            run.row("fence(" + (n < 250 ? n : 511 - (n - 250)) + ", " + (n < 250 ? 0 : 5) + ") = 0");
        }
        run.rows("many(0, 0) = 1", "many(5, 511) = 1", "many(0, 511) = 2", "many(5, 0) = 2", "entry(0, 7, 0, 0, 0) = 2", "many(5, 511) = 1");
    }

    private static void walkersUpToTheLast(Check check) {
        Run run = Run.of(check, "walkers begun and turned up to the 512th call", "root(0, 0)", "entry(0, 0, 1, 1, 7)", "entry(1, 0, 1, 2, 7)",
                "entry(2, 0, 2, 7, 7)", "current(0)", "begin(0, 0, 0, false) = 1", "turn(0) = 1", "turn(0) = 1", "turn(0) = 2");
        while (run.made() + 8 < CALLS) {
            int walker = run.made() / 2 % 4;
            run.rows("begin(" + walker + ", 0, 0, false) = 1", "turn(" + walker + ") = 2");
        }
        run.rows("count(8) = 248", "count(7) = 254", "count(13) = 0", "begin(3, 64, 0, true) = 1", "turn(3) = 3", "turn(3) = -1");
    }

    private static void tagsUpToTheLast(Check check) {
        Run run = Run.of(check, "TAGS are recycled up to the 512th call", "root(0, 0)", "root(1, 0)", "root(2, 0)", "root(3, 0)", "root(4, 0)",
                "root(5, 0)");
        for (int n = 0; run.made() < CALLS; n++) {
            run.is(n % 3, "current(" + (5 - n % 6) + ")");
        }
    }

    private static void placesUpToTheLast(Check check) {
        Run run = Run.of(check, "PLACES by USE up to the 512th call", "root(0, 0)", "entry(0, 0, 1, 1, 7)", "entry(1, 0, 1, 2, 7)", "current(0)");
        for (int i = 0; i < 8; i++) {
            run.row("entry(2, " + i + ", 2, " + (10 + i) + ", 7)");
        }
        int n = 0;
        while (run.made() < CALLS - 6) {
            run.is(10 + n % 8, "access(" + n % 8 + ", 0)");
            n++;
        }
        // The n-th of them came to place n modulo 6, as no address was there still when it came again.
        for (int back = 1; back <= 6; back++) {
            run.is(10 + (n - back) % 8, "cached(" + (n - back) % 6 + ", 3)");
        }
    }

    private static final String[] FACE = {"entry", "marks", "root", "current", "access", "would", "steps", "begin", "turn", "walker", "fence",
        "fenceSpace", "fenceAll", "way", "of", "cached", "upper", "permitted", "many", "reverse", "through", "space", "count"};
    private static final int[] EXTREMES = {Integer.MIN_VALUE, Integer.MIN_VALUE + 1, -1000, -512, -9, -8, -7, -6, -3, -2, -1, 0, 1, 2, 3, 4,
        5, 6, 7, 8, 9, 11, 12, 13, 15, 16, 40, 63, 64, 95, 96, 447, 448, 511, 512, 513, 999, 1000, 1062, 1063, 1087, 1088, 1 << 16, 1 << 26,
        Integer.MAX_VALUE - 1, Integer.MAX_VALUE};

    /** Any arguments in any state: what a call throws beside the one exception of the document ends the test. */
    private static void nothingElseIsThrown(Check check) {
        for (int seed = 0; seed < 400; seed++) {
            Random random = new Random(seed);
            WalkHouse house = new WalkHouse();
            int[] a = new int[5];
            for (int n = 0; n < CALLS; n++) {
                String name = FACE[random.nextInt(FACE.length)];
                for (int k = 0; k < a.length; k++) {
                    a[k] = random.nextInt(seed % 8 + 2) == 0 ? EXTREMES[random.nextInt(EXTREMES.length)] : random.nextInt(3);
                }
                int answer = Run.answer(house, name, a);
                boolean mayThrow = name.equals("cached") || name.equals("upper");
                check.yes(name + " answers no less than -6", answer >= -6 || mayThrow && answer == Run.THROWN);
            }
        }
    }
}
