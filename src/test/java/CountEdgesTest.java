/** Boundary cases of promise 24 (count): each what at its least and its greatest, and what does not count. */
public final class CountEdgesTest {
    public static void main(String[] args) {
        Check check = new Check();
        others(check);
        theCurrentSpace(check);
        accessesAndHits(check);
        stepsOfAll(check);
        walksBehind(check);
        faultsOfAccesses(check);
        allAccessed(check);
        walkersGoing(check);
        onlyOfThisObject(check);
        check.end();
    }

    private static void others(Check check) {
        int[] others = {-1, -2, 14, 15, 100, Integer.MIN_VALUE, Integer.MAX_VALUE};
        Run run = new Run(check, "NONE for another what");
        for (int what : others) {
            run.is(-1, "count(" + what + ")");
        }
        run.rows("root(0, 0)", "entry(0, 0, 2, 1, 7)", "current(0)", "access(0, 1)", "begin(0, 0, 0, false)");
        for (int what : others) {
            run.is(-1, "count(" + what + ")");
        }
        for (int what = 0; what < 14; what++) {
            check.no("a new object: count(" + what + ") is NONE", (new WalkHouse().count(what) == -1) != (what == 0));
        }
    }

    private static void theCurrentSpace(Check check) {
        Run.of(check, "the CURRENT SPACE (NONE)", "count(0) = -1", "root(0, 0)", "root(5, 0)", "count(0) = -1", "current(5)", "count(0) = 5",
                "current(0)", "count(0) = 0", "current(1) = -1", "count(0) = 0", "root(0, -1)", "count(0) = 0");
    }

    private static void accessesAndHits(Check check) {
        Run.of(check, "ACCESSES (that were not refused), HITS", "access(0, 0) = -1", "count(5) = 0", "root(0, 0)", "entry(0, 0, 2, 1, 3)",
                "current(0)", "access(512, 0) = -1", "access(0, 8) = -1", "would(0, 0) = 1", "steps(0, 0) = 2", "begin(0, 0, 0, false)",
                "count(5) = 0", "count(6) = 0", "access(0, 0) = 1", "count(5) = 1", "count(6) = 0", "access(63, 2) = 64", "count(5) = 2",
                "count(6) = 1", "access(0, 4) = -6", "count(5) = 3", "count(6) = 1", "access(64, 0) = -4", "count(5) = 4", "count(6) = 1",
                "would(0, 0) = 1", "count(5) = 4", "count(6) = 1");
    }

    private static void stepsOfAll(Check check) {
        Run.of(check, "STEPS of all ACCESSES and walkers", "root(0, 0)", "entry(0, 0, 1, 1, 7)", "entry(1, 0, 2, 1, 7)", "current(0)",
                "count(7) = 0", "access(0, 0) = 1", "count(7) = 4", "access(0, 0) = 1", "count(7) = 4", "access(64, 0) = -4", "count(7) = 5",
                "begin(0, 64, 0, false)", "count(7) = 5", "turn(0) = 3", "count(7) = 6", "turn(0) = -1", "count(7) = 6", "begin(0, 0, 1, false)",
                "turn(0) = 2", "count(7) = 8", "begin(0, 0, 0, true)", "fenceAll()", "count(7) = 8", "steps(0, 0) = 2", "way(0, 0, 0) = 1",
                "count(7) = 8", "root(0, -1)", "access(0, 0) = -3", "begin(0, 0, 0, false) = 3", "count(7) = 8");
    }

    private static void walksBehind(Check check) {
        Run.of(check, "WALKS that began behind a PLACE of the UPPER (walkers, too)", "root(0, 0)", "entry(0, 0, 1, 1, 7)", "entry(1, 0, 1, 2, 7)",
                "entry(2, 0, 2, 1, 7)", "current(0)", "access(0, 0) = 1", "count(8) = 0", "access(0, 0) = 1", "count(8) = 0", "access(1, 0) = -4",
                "count(8) = 1", "access(8, 0) = -4", "count(8) = 2", "begin(0, 0, 0, false) = 1", "count(8) = 3", "turn(0) = 2", "count(8) = 3",
                "begin(0, 0, 0, true) = 1", "count(8) = 4", "begin(0, 0, 0, true) = -1", "would(1, 0) = -4", "steps(1, 0) = 1", "count(8) = 4",
                "access(64, 0) = -4", "begin(1, 64, 0, false) = 1", "count(8) = 4", "fenceAll() = 3", "count(8) = 4");
    }

    private static void faultsOfAccesses(Check check) {
        Run.of(check, "FAULTS of ACCESSES", "root(0, 0)", "entry(0, 0, 1, 1, 7)", "entry(1, 0, 1, 2, 7)", "entry(2, 0, 1, 3, 7)",
                "entry(2, 1, 2, 1, 0)", "current(0)", "access(64, 0) = -4", "count(9) = 1", "access(0, 0) = -5", "count(9) = 2",
                "access(1, 2) = -6", "count(9) = 3", "access(1, 0) = 1", "access(1, 0) = 1", "count(9) = 3", "fenceAll()", "root(0, -1)",
                "access(1, 0) = -3", "count(9) = 4", "begin(0, 1, 0, false) = 3", "would(1, 0) = -3", "access(512, 0) = -1", "count(9) = 4");
    }

    private static void allAccessed(Check check) {
        Run run = new Run(check, "ENTRIES that are ACCESSED, DIRTY: none to all 96");
        for (int cell = 0; cell < 96; cell++) {
            String at = cell / 8 + ", " + cell % 8;
            run.rows("entry(" + at + ", " + (1 + cell % 2) + ", 3, 0) = 0", "marks(" + at + ", " + (cell < 48 ? 1 : 3) + ") = 0");
            run.is(cell + 1, "count(11)").is(cell < 48 ? 0 : cell - 47, "count(12)");
        }
        run.rows("marks(0, 0, 2) = 1", "count(11) = 95", "count(12) = 49", "marks(11, 7, 0) = 3", "count(11) = 94", "count(12) = 48",
                "entry(11, 6, 0, 0, 0)", "count(11) = 93", "count(12) = 47", "entry(11, 5, 2, 4, 0)", "count(11) = 92", "count(12) = 46",
                "fenceAll()", "count(11) = 92", "count(12) = 46");
    }

    private static void walkersGoing(Check check) {
        Run.of(check, "walkers that are going: none to all four", "root(0, 0)", "entry(0, 0, 2, 1, 7)", "current(0)", "count(13) = 0",
                "begin(3, 0, 0, false)", "count(13) = 1", "begin(0, 64, 0, false)", "begin(1, 0, 0, true)", "begin(2, 0, 0, true)",
                "count(13) = 4", "turn(3) = 2", "count(13) = 3", "turn(0) = 3", "count(13) = 2", "fence(0, 5)", "count(13) = 0",
                "root(0, -1)", "begin(0, 64, 0, false) = 3", "count(13) = 0");
    }

    private static void onlyOfThisObject(Check check) {
        WalkHouse one = new WalkHouse();
        WalkHouse other = new WalkHouse();
        one.root(0, 0);
        one.entry(0, 0, 2, 1, 7);
        one.current(0);
        one.access(0, 1);
        one.begin(0, 0, 0, false);
        for (int what = 0; what < 14; what++) {
            check.is("an object is one machine: count(" + what + ") of another", what == 0 ? -1 : 0, other.count(what));
        }
        check.is("of(0, 0, 0) of another", 0, other.of(0, 0, 0));
        check.is("walker(0, 0) of another", 0, other.walker(0, 0));
    }
}
