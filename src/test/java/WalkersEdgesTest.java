/** Boundary cases of promises 9 (begin), 10 (turn) and 11 (walker), sentence by sentence. */
public final class WalkersEdgesTest {
    /** Space 0 is current; address 5 has a page of frame 100, address 6 leads too deep, 448 to 511 are a page of frame 300. */
    private static final String[] PAGED = {"root(0, 0)", "entry(0, 0, 1, 1, 7)", "entry(1, 0, 1, 2, 7)", "entry(2, 5, 2, 100, 7)",
        "entry(2, 6, 1, 3, 7)", "entry(0, 7, 2, 300, 7)", "current(0)"};

    public static void main(String[] args) {
        Check check = new Check();
        noneIsCurrent(check);
        leastAndGreatest(check);
        others(check);
        allFourAtOnce(check);
        itIsGoing(check);
        begunFromEveryState(check);
        faultOneAtOnce(check);
        faultOneButAPlace(check);
        turnsOfEveryState(check);
        whatAWalkerTells(check);
        endsAtEveryLevel(check);
        faultsAtEveryLevel(check);
        rightsOfAllAhead(check);
        theEntryAsItIsThen(check);
        theRootAsItWas(check);
        thePlaceBehindWhichItBegan(check);
        withoutTheCache(check);
        aGuessSetsNoMarks(check);
        aGuessBringsWhatIsAccessed(check);
        aGuessThatWantsWrite(check);
        aTagOfItsOwn(check);
        stepsOfWalkers(check);
        check.end();
    }

    /** All that walker() tells of a walker, what 0 to 5. */
    private static Run tells(Run run, int walker, int... due) {
        for (int what = 0; what < due.length; what++) {
            run.is(due[what], "walker(" + walker + ", " + what + ")");
        }
        return run;
    }

    private static void noneIsCurrent(Check check) {
        Run run = Run.of(check, "begin: NONE, none is CURRENT", "root(0, 0)", "begin(0, 0, 0, false) = -1", "begin(3, 511, 7, true) = -1");
        tells(run, 0, 0, -1, -1, -1, -1, -1);
        tells(run, 3, 0, -1, -1, -1, -1, -1);
        run.rows("count(13) = 0", "current(0)", "begin(0, 0, 0, false) = 1", "count(13) = 1");
    }

    private static void leastAndGreatest(Check check) {
        Run run = new Run(check, "WALKERS 0 to 3, ADDRESSES 0 to 511, rights 0 to 7").rows(PAGED).rows("begin(0, 0, 0, false) = 1",
                "begin(3, 511, 7, true) = 1");
        tells(run, 0, 1, 0, 0, -1, 2, 0);
        tells(run, 3, 1, 511, 0, -1, 2, 0);
        run.rows("turn(3) = 2", "turn(0) = 1", "walker(3, 3) = 363", "walker(0, 4) = 1");
    }

    private static void others(Check check) {
        Run run = new Run(check, "begin, turn, walker: NONE, others").rows(PAGED);
        String[] begins = {"-1, 5, 0", "4, 5, 0", "0, -1, 0", "0, 512, 0", "0, 5, -1", "0, 5, 8", "0, 5, 15", "3, 512, 0", "4, 511, 7",
            "-2147483648, 5, 0", "2147483647, 5, 0", "0, -2147483648, 0", "0, 2147483647, 0", "0, 5, -2147483648", "0, 5, 2147483647"};
        for (String arguments : begins) {
            run.row("begin(" + arguments + ", false) = -1").row("begin(" + arguments + ", true) = -1");
        }
        run.rows("count(13) = 0", "begin(0, 5, 0, false) = 1", "begin(3, 5, 0, false) = 1");
        int[] walkers = {-1, 4, Integer.MIN_VALUE, Integer.MAX_VALUE};
        for (int walker : walkers) {
            run.is(-1, "turn(" + walker + ")");
            for (int what = -1; what <= 6; what++) {
                run.is(-1, "walker(" + walker + ", " + what + ")");
            }
        }
        int[] whats = {-1, 6, 7, Integer.MIN_VALUE, Integer.MAX_VALUE};
        for (int what : whats) {
            run.is(-1, "walker(0, " + what + ")").is(-1, "walker(3, " + what + ")").is(-1, "walker(1, " + what + ")");
        }
        tells(run, 0, 1, 5, 0, -1, 2, 0);
        run.row("count(7) = 0");
    }

    private static void allFourAtOnce(Check check) {
        Run run = new Run(check, "WALKERS 0 to 3 all going, each at its own ENTRY").rows(PAGED);
        for (int walker = 0; walker < 4; walker++) {
            run.is(walker, "count(13)").is(1, "begin(" + walker + ", " + (5 + walker % 2) + ", 0, false)");
        }
        run.rows("count(13) = 4", "turn(1) = 1", "turn(2) = 1", "turn(2) = 1", "turn(3) = 1", "turn(3) = 1", "turn(3) = 3");
        tells(run, 0, 1, 5, 0, -1, 2, 0);
        tells(run, 1, 1, 6, 2, -1, 1, 0);
        tells(run, 2, 1, 5, 3, -1, 0, 0);
        tells(run, 3, 3, 6, 3, 3, -1, 0);
        run.rows("count(13) = 3", "turn(2) = 2", "count(13) = 2", "fenceAll() = 3", "count(13) = 0");
    }

    private static void itIsGoing(Check check) {
        Run run = new Run(check, "begin: NONE, it is going").rows(PAGED).rows("begin(2, 5, 1, false) = 1", "turn(2) = 1",
                "begin(2, 448, 0, true) = -1", "begin(2, 5, 1, false) = -1");
        tells(run, 2, 1, 5, 2, -1, 1, 0);
        run.rows("count(8) = 0", "turn(2) = 1", "turn(2) = 2", "cached(0, 5) = 1", "of(2, 5, 3) = 3");
    }

    private static void begunFromEveryState(Check check) {
        String[][] states = {{}, {"begin(1, 448, 0, true)", "turn(1) = 2"}, {"begin(1, 64, 0, true)", "turn(1) = 3"},
            {"begin(1, 5, 0, true)", "turn(1) = 1", "fenceAll() = 0"}};
        for (int k = 0; k < states.length; k++) {
            Run run = new Run(check, "A walker that is not going is begun").rows(PAGED).rows(states[k]);
            run.is(k == 0 ? 0 : k + 1, "walker(1, 0)").is(1, "begin(1, 6, 0, false)");
            tells(run, 1, 1, 6, 0, -1, 2, 0);
            run.rows("turn(1) = 1", "turn(1) = 1", "turn(1) = 3");
            tells(run, 1, 3, 6, 5, 3, -1, 0);
        }
    }

    private static void faultOneAtOnce(Check check) {
        Run run = new Run(check, "with FAULT 1 it is FAULTED at once: 3").rows(PAGED).rows("root(0, -1)", "begin(0, 0, 0, false) = 3",
                "begin(3, 511, 7, true) = 3");
        tells(run, 0, 3, 0, 0, 1, -1, 0);
        tells(run, 3, 3, 511, 0, 1, -1, 0);
        run.rows("turn(0) = -1", "count(13) = 0", "count(7) = 0", "count(9) = 0", "begin(0, 5, 0, false) = 3", "root(0, 0)",
                "begin(0, 5, 0, false) = 1");
        tells(run, 0, 1, 5, 0, -1, 2, 0);
    }

    private static void faultOneButAPlace(Check check) {
        new Run(check, "begins as a WALK: behind a PLACE of the UPPER there is no FAULT 1").rows(PAGED).rows("access(5, 0) = 100",
                "root(0, -1)", "begin(0, 6, 0, false) = 1", "walker(0, 4) = 0", "turn(0) = 3", "walker(0, 3) = 3",
                "begin(0, 8, 0, false) = 1", "walker(0, 4) = 1", "turn(0) = 3", "walker(0, 3) = 2", "begin(0, 64, 0, false) = 3",
                "walker(0, 3) = 1");
    }

    private static void turnsOfEveryState(Check check) {
        new Run(check, "turn: NONE, it is not going").rows(PAGED).rows("turn(0) = -1", "walker(0, 0) = 0", "begin(0, 448, 0, false)",
                "turn(0) = 2", "turn(0) = -1", "walker(0, 0) = 2", "walker(0, 2) = 2", "begin(0, 64, 0, false)", "turn(0) = 3",
                "turn(0) = -1", "walker(0, 0) = 3", "walker(0, 2) = 1", "begin(0, 64, 0, false)", "fenceAll() = 1", "turn(0) = -1",
                "walker(0, 0) = 4", "walker(0, 2) = 0", "count(7) = 3");
    }

    private static void whatAWalkerTells(Check check) {
        Run run = new Run(check, "walker: idle, going, done, FAULTED, ABORTED").rows(PAGED);
        tells(run, 3, 0, -1, -1, -1, -1, -1, -1);
        run.row("begin(3, 450, 1, false) = 1");
        tells(run, 3, 1, 450, 0, -1, 2, 0, -1);
        run.row("turn(3) = 2");
        tells(run, 3, 2, 450, 2, 302, -1, 0, -1);
        run.rows("begin(3, 8, 0, false) = 1", "turn(3) = 1", "turn(3) = 3");
        tells(run, 3, 3, 8, 3, 2, -1, 0, -1);
        run.rows("begin(3, 9, 0, false) = 1", "fence(9, 5) = 0");
        tells(run, 3, 4, 9, 0, -1, -1, 0, -1);
        // Its steps stay those that it took, here two entries and a mark each.
        run.rows("fenceAll() = 2", "marks(0, 0, 0) = 1", "begin(3, 5, 0, false) = 1", "turn(3) = 1", "turn(3) = 1", "fence(5, 5) = 0");
        tells(run, 3, 4, 5, 4, -1, -1, 0, -1);
    }

    private static void endsAtEveryLevel(Check check) {
        Run run = new Run(check, "a PAGE ends it: of LEVEL 2, 1, 0").rows(PAGED).rows("entry(1, 7, 2, 999, 7)", "entry(2, 0, 2, 0, 7)");
        run.rows("begin(0, 511, 0, false)", "turn(0) = 2", "walker(0, 3) = 363", "begin(0, 63, 0, false)", "turn(0) = 1", "turn(0) = 2",
                "walker(0, 3) = 1006", "fenceAll()", "begin(0, 0, 0, false)", "turn(0) = 1", "walker(0, 4) = 1", "turn(0) = 1",
                "walker(0, 4) = 0", "turn(0) = 2", "walker(0, 3) = 0", "walker(0, 4) = -1");
    }

    private static void faultsAtEveryLevel(Check check) {
        Run run = new Run(check, "FAULTED: 2 of every LEVEL, 3, 4").rows(PAGED).rows("entry(2, 7, 2, 70, 3)", "entry(0, 6, 1, 1, 5)",
                "entry(1, 6, 1, 2, 6)");
        String[][] faults = {{"64, 0", "1", "2"}, {"8, 0", "2", "2"}, {"0, 0", "3", "2"}, {"6, 7", "3", "3"}, {"7, 4", "3", "4"},
            {"384, 2", "1", "4"}, {"48, 1", "2", "4"}};
        for (String[] fault : faults) {
            run.rows("fenceAll()", "begin(2, " + fault[0] + ", true) = 1");
            int turns = Integer.parseInt(fault[1]);
            for (int n = 1; n <= turns; n++) {
                run.is(n == turns ? 3 : 1, "turn(2)");
            }
            run.rows("walker(2, 0) = 3", "walker(2, 3) = " + fault[2], "walker(2, 2) = " + turns, "walker(2, 4) = -1");
        }
        run.rows("count(9) = 0", "count(5) = 0");
    }

    private static void rightsOfAllAhead(Check check) {
        Run run = Run.of(check, "4 (with the RIGHTS of all ahead of it), turn by turn", "root(0, 0)", "entry(0, 0, 1, 1, 7)",
                "entry(1, 0, 1, 2, 7)", "entry(2, 0, 2, 10, 15)", "current(0)", "begin(0, 0, 0, false)", "begin(1, 0, 1, false)",
                "turn(0) = 1", "turn(1) = 1", "entry(1, 0, 1, 2, 6)", "turn(0) = 1", "turn(1) = 3", "walker(1, 3) = 4", "turn(0) = 2");
        run.rows("cached(0, 4) = 14", "upper(0, 4) = 7", "upper(1, 4) = 6");
        // Rights that an entry gained behind the walker's back do not count: it has passed there.
        Run.of(check, "the RIGHTS of those ahead are as they were read", "root(0, 0)", "entry(0, 0, 1, 1, 6)", "entry(1, 0, 2, 10, 7)",
                "current(0)", "begin(0, 0, 0, false)", "turn(0) = 1", "entry(0, 0, 1, 1, 7)", "turn(0) = 2", "cached(0, 4) = 6",
                "cached(0, 7) = 1", "upper(0, 4) = 6", "upper(0, 6) = 1");
    }

    private static void theEntryAsItIsThen(Check check) {
        new Run(check, "each of its turns is one ENTRY of it, as that is then").rows(PAGED).rows("begin(0, 5, 0, false) = 1", "turn(0) = 1",
                "turn(0) = 1", "entry(2, 5, 0, 0, 0) = 2", "turn(0) = 3", "walker(0, 3) = 2");
        new Run(check, "an ENTRY that it has read may become none").rows(PAGED).rows("begin(0, 5, 0, false) = 1", "turn(0) = 1",
                "entry(0, 0, 0, 0, 0) = 1", "turn(0) = 1", "entry(1, 0, 0, 0, 0) = 1", "turn(0) = 2", "walker(0, 3) = 100",
                "count(3) = 1", "count(4) = 2");
        new Run(check, "an ENTRY ahead becomes a PAGE").rows(PAGED).rows("begin(0, 5, 0, false) = 1", "turn(0) = 1",
                "entry(1, 0, 2, 800, 7) = 1", "turn(0) = 2", "walker(0, 3) = 805", "cached(0, 1) = 1", "cached(0, 2) = 0");
        new Run(check, "an ENTRY ahead leads elsewhere").rows(PAGED).rows("entry(9, 5, 2, 900, 7)", "begin(0, 5, 0, false) = 1",
                "turn(0) = 1", "turn(0) = 1", "entry(1, 0, 1, 9, 7) = 1", "turn(0) = 2", "walker(0, 3) = 100", "fenceAll()",
                "begin(0, 5, 0, false) = 1", "turn(0) = 1", "turn(0) = 1", "turn(0) = 2", "walker(0, 3) = 900");
    }

    private static void theRootAsItWas(Check check) {
        new Run(check, "a walker begins at the ROOT: that which it was").rows(PAGED).rows("begin(0, 5, 0, false) = 1", "root(0, -1) = 0",
                "turn(0) = 1", "turn(0) = 1", "turn(0) = 2", "walker(0, 3) = 100");
    }

    private static void thePlaceBehindWhichItBegan(Check check) {
        new Run(check, "behind a PLACE of the UPPER that is another's since").rows(PAGED).rows("root(1, 0)", "access(5, 0) = 100",
                "begin(0, 5, 0, false) = 1", "walker(0, 4) = 0", "entry(0, 1, 1, 4, 7)", "entry(0, 2, 1, 4, 7)", "entry(0, 3, 1, 4, 7)",
                "entry(0, 4, 1, 4, 7)", "entry(0, 5, 1, 4, 7)", "entry(0, 6, 1, 4, 7)", "access(64, 0) = -4", "access(128, 0) = -4",
                "access(192, 0) = -4", "access(256, 0) = -4", "access(320, 0) = -4", "access(384, 0) = -4", "upper(0, 2) = 320",
                "upper(1, 2) = 384", "turn(0) = 2", "walker(0, 3) = 100", "walker(0, 2) = 1");
        new Run(check, "behind a PLACE of the UPPER: of LEVEL 1 ahead of LEVEL 2 (it is used)").rows(PAGED).rows("access(5, 0) = 100",
                "begin(0, 15, 0, true) = 1", "walker(0, 4) = 1", "upper(0, 5) = 0", "begin(1, 7, 0, true) = 1", "walker(1, 4) = 0",
                "upper(1, 5) = 0", "upper(0, 5) = 1", "begin(2, 64, 0, true) = 1", "walker(2, 4) = 2", "count(8) = 2");
    }

    private static void withoutTheCache(Check check) {
        new Run(check, "begins as a WALK (without the CACHE)").rows(PAGED).rows("access(5, 0) = 100", "access(448, 0) = 300",
                "begin(0, 448, 0, false) = 1", "walker(0, 4) = 2", "cached(0, 6) = 1", "turn(0) = 2", "walker(0, 2) = 1", "count(6) = 0",
                "begin(1, 5, 4, false) = 1", "count(1) = 2", "cached(0, 6) = 1", "turn(1) = 2", "cached(0, 6) = 0", "count(1) = 2");
        new Run(check, "a PLACE that lacks what a walker wants does not go: it is not DIRTY").rows(PAGED).rows("access(448, 0) = 300",
                "begin(0, 448, 1, false) = 1", "count(1) = 1", "cached(0, 5) = 0", "turn(0) = 2", "count(1) = 1", "cached(0, 5) = 1");
        new Run(check, "a PLACE that lacks what a walker wants does not go: a right").rows(PAGED).rows("entry(0, 7, 2, 300, 3)",
                "access(448, 0) = 300", "begin(0, 448, 4, false) = 1", "count(1) = 1", "turn(0) = 3", "count(1) = 1", "cached(0, 4) = 3",
                "entry(0, 7, 2, 300, 7)", "begin(0, 448, 4, true) = 1", "count(1) = 1", "turn(0) = 2", "cached(0, 4) = 3",
                "begin(0, 448, 4, false) = 1", "count(1) = 1", "turn(0) = 2", "cached(0, 4) = 7", "count(1) = 1");
    }

    private static void aGuessSetsNoMarks(Check check) {
        new Run(check, "Of a GUESS there are no marks set").rows(PAGED).rows("begin(0, 5, 7, true) = 1", "turn(0) = 1", "turn(0) = 1",
                "turn(0) = 2", "walker(0, 3) = 100", "walker(0, 2) = 3", "count(7) = 3", "count(11) = 0", "count(12) = 0",
                "count(1) = 0", "count(2) = 0", "marks(0, 0, 2)", "marks(1, 0, 2)", "marks(2, 5, 2)", "begin(0, 5, 7, true) = 1",
                "turn(0) = 1", "turn(0) = 1", "turn(0) = 2", "count(11) = 0", "count(12) = 3", "count(1) = 0", "count(2) = 0");
    }

    private static void aGuessBringsWhatIsAccessed(Check check) {
        for (int accessed = 0; accessed < 8; accessed++) {
            int top = accessed / 4;
            int next = accessed / 2 % 2;
            int page = accessed % 2;
            Run run = new Run(check, "what is not ACCESSED comes to no cache: " + accessed).rows(PAGED);
            run.rows("marks(0, 0, " + top + ")", "marks(1, 0, " + next + ")", "marks(2, 5, " + page + ")", "begin(0, 5, 0, true) = 1",
                    "turn(0) = 1").is(top, "count(2)").row("turn(0) = 1").is(top + next, "count(2)").row("turn(0) = 2");
            run.is(page, "count(1)").is(accessed == 0 ? 0 : top + next + page, "count(11)");
            run.is(top == 1 ? 2 : next == 1 ? 1 : Run.THROWN, "upper(0, 1)");
        }
    }

    private static void aGuessThatWantsWrite(Check check) {
        new Run(check, "a GUESS makes no PAGE DIRTY").rows(PAGED).rows("marks(0, 7, 1)", "begin(0, 448, 1, true) = 1", "turn(0) = 2",
                "of(0, 7, 3) = 1", "cached(0, 5) = 0", "steps(448, 0) = 0", "steps(448, 1) = 2", "access(448, 1) = 300",
                "cached(0, 5) = 1");
        new Run(check, "a GUESS of a PAGE that is DIRTY").rows(PAGED).rows("marks(0, 7, 3)", "begin(0, 448, 0, true) = 1", "turn(0) = 2",
                "cached(0, 5) = 1", "steps(448, 1) = 0", "access(448, 1) = 300", "count(6) = 1");
    }

    private static void aTagOfItsOwn(Check check) {
        new Run(check, "A walker begun takes the TAG of the CURRENT SPACE").rows(PAGED).rows("root(1, 7)", "root(2, 7)",
                "begin(0, 5, 0, false) = 1", "current(1) = 1", "begin(1, 5, 0, false) = 1", "current(2) = 2", "begin(2, 5, 0, false) = 1",
                "walker(0, 5) = 0", "walker(1, 5) = 1", "walker(2, 5) = 2", "turn(0) = 1", "turn(1) = 3", "turn(2) = 3", "turn(0) = 1",
                "turn(0) = 2", "cached(0, 0) = 0", "upper(0, 0) = 0", "upper(1, 0) = 0", "count(2) = 2", "fenceSpace(2) = 0",
                "begin(1, 5, 0, false) = 1", "walker(1, 5) = 2", "walker(1, 4) = 2");
    }

    private static void stepsOfWalkers(Check check) {
        new Run(check, "STEPS of all ACCESSES and walkers; those of one begin anew").rows(PAGED).rows("begin(0, 5, 1, false) = 1",
                "turn(0) = 1", "walker(0, 2) = 2", "count(7) = 2", "turn(0) = 1", "turn(0) = 2", "walker(0, 2) = 6", "count(7) = 6",
                "access(5, 1) = 100", "count(7) = 6", "begin(0, 5, 1, false) = 1", "walker(0, 2) = 0", "turn(0) = 2", "walker(0, 2) = 1",
                "count(7) = 7", "begin(0, 64, 0, false) = 1", "fenceAll() = 3", "begin(0, 64, 0, true) = 1", "turn(0) = 3",
                "walker(0, 2) = 1", "count(7) = 8", "count(5) = 1", "count(6) = 1");
    }
}
