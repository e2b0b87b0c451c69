/** Boundary cases of promises 6 (access), 7 (would) and 8 (steps), sentence by sentence. */
public final class AccessEdgesTest {
    /** Space 0 is current, address 0 goes by entries (0, 0), (1, 0) and (2, 0), the last of which is not told yet. */
    private static final String[] CHAIN = {"root(0, 0)", "entry(0, 0, 1, 1, 7)", "entry(1, 0, 1, 2, 7)", "current(0)"};

    public static void main(String[] args) {
        Check check = new Check();
        noneIsCurrent(check);
        leastAndGreatestAddress(check);
        whatMayBeWanted(check);
        everyRightAtEveryLevel(check);
        theEdgesOfAPage(check);
        leastAndGreatestFrame(check);
        everyFaultAtEveryLevel(check);
        faultsInTheirOrder(check);
        noRootButAPlace(check);
        whatFaultedIsNotMarked(check);
        marksOfAPage(check);
        marksOfATable(check);
        wasDirtyAsItCame(check);
        itGoes(check);
        severalThatFit(check);
        anothersDoesNotFit(check);
        theEdgesOfAnUpperPlace(check);
        levelOneAheadOfLevelTwo(check);
        anUpperPlaceOfAnotherTag(check);
        mostSteps(check);
        check.end();
    }

    /** What was foretold of an access, and the access. */
    private static Run access(Run run, int address, int wants, int due, int steps) {
        String arguments = "(" + address + ", " + wants + ")";
        run.is(due, "would" + arguments).is(steps, "steps" + arguments);
        int before = run.answer("count(7)");
        return run.is(due, "access" + arguments).is(before + steps, "count(7)");
    }

    private static void noneIsCurrent(Check check) {
        Run run = Run.of(check, "NONE: none is CURRENT", "root(0, 0)", "entry(0, 0, 2, 5, 7)");
        run.rows("access(0, 0) = -1", "would(0, 0) = -1", "steps(0, 0) = -1", "count(5) = 0", "count(9) = 0", "count(11) = 0",
                "current(0)", "steps(0, 0) = 2", "would(0, 0) = 5", "access(0, 0) = 5", "count(5) = 1");
    }

    private static void leastAndGreatestAddress(Check check) {
        Run run = Run.of(check, "An ADDRESS is 0 to 511", "root(0, 0)", "entry(0, 0, 2, 10, 7)", "entry(0, 7, 2, 500, 7)", "current(0)");
        access(run, 0, 0, 10, 2);
        access(run, 511, 0, 563, 2);
        int[] others = {-1, 512, -512, 1024, Integer.MIN_VALUE, Integer.MAX_VALUE};
        for (int address : others) {
            run.is(-1, "access(" + address + ", 0)").is(-1, "would(" + address + ", 0)").is(-1, "steps(" + address + ", 0)");
        }
        run.rows("count(5) = 2", "count(6) = 0", "count(7) = 4", "count(9) = 0", "count(1) = 2");
    }

    private static void whatMayBeWanted(Check check) {
        Run run = Run.of(check, "rights wanted as bits (1 WRITE, 2 USER, 4 RUN); GLOBAL is not wanted", "root(0, 0)",
                "entry(0, 0, 2, 10, 15)", "current(0)");
        int[] others = {-1, 8, 9, 15, 16, Integer.MIN_VALUE, Integer.MAX_VALUE};
        for (int wants : others) {
            run.is(-1, "access(0, " + wants + ")").is(-1, "would(0, " + wants + ")").is(-1, "steps(0, " + wants + ")");
        }
        run.row("count(5) = 0");
        access(run, 0, 7, 10, 2);
        access(run, 0, 0, 10, 0);
    }

    private static void everyRightAtEveryLevel(Check check) {
        for (int level = 0; level <= 2; level++) {
            for (int rights = 0; rights < 16; rights++) {
                for (int wants = 0; wants < 8; wants++) {
                    Run run = Run.of(check, "4 rights: each that is wanted must be of all ENTRIES of the WAY", "root(0, 0)",
                            "entry(0, 0, 1, 1, " + (level == 2 ? rights : 7) + ")",
                            "entry(1, 0, 1, 2, " + (level == 1 ? rights : 7) + ")",
                            "entry(2, 0, 2, 60, " + (level == 0 ? rights : 7) + ")", "current(0)");
                    boolean lacks = (wants & ~rights) != 0;
                    access(run, 0, wants, lacks ? -6 : 60, lacks ? 2 * (2 - level) + 1 : 6);
                    run.is(lacks ? 1 : 0, "count(9)").is(lacks ? 0 : 1, "count(1)").is(lacks ? 2 - level : 2, "count(2)");
                }
            }
        }
    }

    private static void theEdgesOfAPage(Check check) {
        Run run = Run.of(check, "of LEVEL 2 64 ADDRESSES WIDE", "root(0, 0)", "entry(0, 3, 2, 400, 7)", "current(0)");
        access(run, 200, 0, 408, 2);
        access(run, 192, 0, 400, 0);
        access(run, 255, 0, 463, 0);
        access(run, 191, 0, -4, 1);
        access(run, 256, 0, -4, 1);
        run.rows("count(6) = 2", "cached(0, 1) = 2", "cached(0, 2) = 192");
        run = Run.of(check, "of 1 8", "root(0, 0)", "entry(0, 1, 1, 1, 7)", "entry(1, 2, 2, 50, 7)", "current(0)");
        access(run, 83, 0, 53, 4);
        access(run, 80, 0, 50, 0);
        access(run, 87, 0, 57, 0);
        access(run, 79, 0, -4, 1);
        access(run, 88, 0, -4, 1);
        run.rows("count(6) = 2", "cached(0, 1) = 1", "cached(0, 2) = 80");
        run = new Run(check, "of 0 1").rows(CHAIN).rows("entry(2, 5, 2, 9, 7)");
        access(run, 5, 0, 9, 6);
        access(run, 5, 0, 9, 0);
        access(run, 4, 0, -4, 1);
        access(run, 6, 0, -4, 1);
        run.rows("count(6) = 1", "cached(0, 1) = 0", "cached(0, 2) = 5");
    }

    private static void leastAndGreatestFrame(Check check) {
        Run run = Run.of(check, "the FRAME of the ADDRESS: the least and the greatest", "root(0, 0)", "entry(0, 0, 2, 0, 7)",
                "entry(0, 7, 2, 999, 7)", "entry(0, 6, 1, 1, 7)", "entry(1, 7, 2, 999, 7)", "entry(1, 0, 1, 2, 7)",
                "entry(2, 7, 2, 999, 7)", "current(0)");
        access(run, 0, 0, 0, 2);
        access(run, 448, 0, 999, 2);
        access(run, 511, 0, 1062, 0);
        access(run, 447, 0, 1006, 4);
        access(run, 391, 0, 999, 4);
    }

    private static void everyFaultAtEveryLevel(Check check) {
        Run run = Run.of(check, "1 there is no ROOT", "root(0, 0)", "current(0)", "root(0, -1)");
        access(run, 0, 0, -3, 0);
        access(run, 511, 7, -3, 0);
        run.rows("count(5) = 2", "count(9) = 2", "count(7) = 0");
        run = Run.of(check, "2 an ENTRY is none: of LEVEL 2", "root(0, 0)", "current(0)");
        access(run, 0, 7, -4, 1);
        run = Run.of(check, "2 an ENTRY is none: of LEVEL 1", "root(0, 0)", "entry(0, 0, 1, 1, 7)", "current(0)");
        access(run, 0, 7, -4, 3);
        access(run, 0, 7, -4, 1);
        run = new Run(check, "2 an ENTRY is none: of LEVEL 0").rows(CHAIN);
        access(run, 0, 7, -4, 5);
        access(run, 0, 7, -4, 1);
        run = new Run(check, "3 one of LEVEL 0 leads to a TABLE").rows(CHAIN).rows("entry(2, 0, 1, 0, 7)");
        access(run, 0, 7, -5, 5);
        access(run, 0, 7, -5, 1);
        run.rows("count(5) = 2", "count(9) = 2", "count(2) = 2", "count(1) = 0");
    }

    private static void faultsInTheirOrder(Check check) {
        Run run = new Run(check, "first it is seen for FAULTS 2, 3; then for 4: 3").rows(CHAIN).rows("entry(2, 0, 1, 3, 0)");
        access(run, 0, 7, -5, 5);
        run = Run.of(check, "first it is seen for FAULTS 2, 3; then for 4: 2", "root(0, 0)", "entry(0, 0, 1, 1, 0)", "current(0)");
        access(run, 0, 0, -4, 3);
        access(run, 0, 7, -4, 1);
        run = Run.of(check, "an ENTRY without the rights ends it ahead of the next", "root(0, 0)", "entry(0, 0, 1, 1, 6)", "current(0)");
        access(run, 0, 1, -6, 1);
        run = new Run(check, "4 (with the RIGHTS of all ahead of it), behind a PLACE of the UPPER").rows("root(0, 0)",
                "entry(0, 0, 1, 1, 6)", "entry(1, 0, 1, 2, 7)", "entry(2, 0, 2, 10, 7)", "current(0)");
        access(run, 0, 0, 10, 6);
        access(run, 0, 1, -6, 1);
        run.rows("count(8) = 1", "entry(0, 0, 1, 1, 7)");
        // The place in the upper is as the entry was when it came.
        access(run, 0, 1, -6, 1);
        run = Run.of(check, "4, behind a PLACE of the UPPER without any RIGHTS", "root(0, 0)", "entry(0, 0, 1, 1, 8)", "entry(1, 0, 2, 10, 15)",
                "current(0)");
        access(run, 0, 0, 10, 4);
        run.rows("upper(0, 4) = 0", "cached(0, 4) = 8");
        for (int wants = 1; wants < 8; wants++) {
            access(run, 0, wants, -6, 1);
        }
    }

    private static void noRootButAPlace(Check check) {
        Run run = new Run(check, "a WALK begins behind the PLACE of the UPPER, else at the ROOT").rows(CHAIN)
                .rows("entry(2, 0, 2, 10, 7)", "entry(2, 1, 2, 11, 7)", "access(0, 0) = 10", "root(0, -1) = 0");
        access(run, 0, 0, 10, 0);
        access(run, 1, 0, 11, 2);
        access(run, 8, 0, -4, 1);
        access(run, 64, 0, -3, 0);
        run.row("fenceSpace(0) = 4");
        access(run, 1, 0, -3, 0);
        run = Run.of(check, "of PLACES that FIT, ahead of a WALK: a HIT needs no ROOT", "root(0, 0)", "entry(0, 0, 2, 10, 7)", "current(0)",
                "access(5, 1) = 15", "root(0, -1) = 0");
        access(run, 5, 1, 15, 0);
        access(run, 63, 6, 73, 0);
        run.rows("count(6) = 2", "count(9) = 0", "fence(0, 0) = 1");
        access(run, 5, 1, -3, 0);
    }

    private static void whatFaultedIsNotMarked(Check check) {
        new Run(check, "an ENTRY with a FAULT gets no marks and comes to no cache").rows(CHAIN).rows("entry(2, 0, 2, 10, 3)",
                "access(0, 5) = -6", "of(2, 0, 3) = 0", "of(1, 0, 3) = 1", "of(0, 0, 3) = 1", "count(11) = 2", "count(12) = 0",
                "count(1) = 0", "count(2) = 2");
        new Run(check, "an ENTRY of LEVEL 0 that leads to a TABLE gets no marks").rows(CHAIN).rows("entry(2, 0, 1, 3, 7)",
                "access(0, 1) = -5", "of(2, 0, 3) = 0", "count(11) = 2", "count(2) = 2");
        Run.of(check, "an ENTRY of LEVEL 2 without the rights gets no marks", "root(0, 0)", "entry(0, 0, 2, 10, 14)", "current(0)",
                "access(0, 1) = -6", "of(0, 0, 3) = 0", "count(7) = 1", "count(1) = 0");
    }

    private static void marksOfAPage(Check check) {
        for (int wants = 0; wants < 8; wants++) {
            for (int marks = 0; marks < 4; marks++) {
                int after = marks | (wants % 2 == 1 ? 3 : 1);
                Run run = Run.of(check, "ACCESSED is set, and DIRTY, if it is a PAGE and WRITE is wanted", "root(0, 0)",
                        "entry(0, 0, 2, 10, 7)", "marks(0, 0, " + marks + ") = 0", "current(0)");
                access(run, 0, wants, 10, after == marks ? 1 : 2);
                run.is(after, "of(0, 0, 3)").is(after / 2, "cached(0, 5)");
            }
        }
    }

    private static void marksOfATable(Check check) {
        for (int wants = 0; wants < 2; wants++) {
            for (int marks = 0; marks < 4; marks++) {
                Run run = Run.of(check, "an ENTRY that leads to a TABLE does not become DIRTY", "root(0, 0)", "entry(0, 0, 1, 1, 7)",
                        "marks(0, 0, " + marks + ") = 0", "current(0)");
                access(run, 0, wants, -4, marks % 2 == 1 ? 2 : 3);
                run.is(marks | 1, "of(0, 0, 3)").is(marks / 2, "count(12)").is(1, "count(2)");
            }
        }
    }

    private static void wasDirtyAsItCame(Check check) {
        Run run = Run.of(check, "a PLACE was not DIRTY as it came, its PAGE is now", "root(0, 0)", "entry(0, 0, 2, 10, 7)", "current(0)",
                "access(0, 0) = 10", "cached(0, 5) = 0", "marks(0, 0, 3) = 1", "cached(0, 5) = 0");
        access(run, 0, 0, 10, 0);
        access(run, 0, 6, 10, 0);
        access(run, 0, 1, 10, 1);
        run.rows("cached(0, 5) = 1", "count(6) = 2");
        run = Run.of(check, "a PLACE was DIRTY as it came, its PAGE is not now", "root(0, 0)", "entry(0, 0, 2, 10, 7)", "current(0)",
                "access(0, 1) = 10", "marks(0, 0, 0) = 3", "cached(0, 5) = 1");
        access(run, 0, 7, 10, 0);
        run.rows("of(0, 0, 3) = 0", "cached(0, 5) = 1", "count(6) = 1");
    }

    private static void itGoes(Check check) {
        new Run(check, "else it goes: also if the WALK comes to a FAULT").rows(CHAIN).rows("entry(2, 0, 2, 10, 3)", "access(0, 1) = 10",
                "count(1) = 1", "would(0, 4) = -6", "count(1) = 1", "access(0, 4) = -6", "count(1) = 0", "cached(0, 0) = throws",
                "count(6) = 0");
        new Run(check, "it goes, and what comes takes an empty PLACE, the lowest").rows(CHAIN).rows("entry(2, 0, 2, 10, 7)",
                "entry(2, 1, 2, 11, 7)", "entry(2, 2, 2, 12, 7)", "access(0, 0)", "access(1, 0)", "access(2, 0)", "fence(0, 0) = 3",
                "cached(2, 3) = 12", "access(2, 1) = 12", "cached(0, 3) = 12", "cached(0, 5) = 1", "cached(2, 0) = throws",
                "cached(1, 3) = 11", "count(1) = 2");
    }

    /** A narrow page of tag 0 and above it a wide global one of tag 1, that used latest. */
    private static Run twoThatFit(Check check, String sentence) {
        return Run.of(check, sentence, "root(0, 0)", "entry(0, 0, 1, 1, 7)", "entry(1, 0, 1, 2, 7)", "entry(2, 3, 2, 100, 3)",
                "root(1, 5)", "entry(5, 0, 2, 400, 12)", "current(0)", "access(3, 1) = 100", "current(1)", "access(0, 4) = 400",
                "current(0)", "count(1) = 2");
    }

    private static void severalThatFit(Check check) {
        Run run = twoThatFit(check, "of PLACES that FIT the one used latest");
        access(run, 3, 4, 403, 0);
        access(run, 3, 0, 403, 0);
        run.row("count(1) = 2");
        run = twoThatFit(check, "else it goes, and so on with the next one that FITS");
        access(run, 3, 1, 100, 0);
        run.rows("count(1) = 1", "cached(0, 3) = 100", "cached(1, 0) = throws", "count(6) = 1");
        run = twoThatFit(check, "and so on; without one: a WALK");
        access(run, 3, 6, -6, 1);
        run.rows("count(1) = 0", "count(6) = 0", "count(9) = 1");
        run = twoThatFit(check, "the one used latest is not always the one that came last").rows("access(2, 0) = 402", "current(0)");
        run.rows("fenceSpace(1) = 0", "begin(0, 3, 0, false) = 1", "turn(0) = 2", "cached(0, 6) = 0", "cached(1, 6) = 1");
        access(run, 3, 0, 100, 0);
        access(run, 3, 4, 403, 0);
        run.rows("count(1) = 1", "cached(0, 0) = throws");
    }

    private static void anothersDoesNotFit(Check check) {
        Run run = Run.of(check, "FITS: its TAG is that of the CURRENT SPACE or it is GLOBAL", "root(0, 0)", "root(1, 1)",
                "entry(0, 0, 2, 10, 7)", "entry(0, 1, 2, 80, 15)", "entry(1, 0, 2, 300, 7)", "current(0)", "access(0, 0) = 10",
                "access(64, 0) = 80", "current(1)");
        access(run, 64, 0, 80, 0);
        access(run, 127, 6, 143, 0);
        access(run, 0, 1, 300, 2);
        run.rows("count(1) = 3", "cached(0, 3) = 10", "cached(2, 0) = 1", "cached(2, 3) = 300");
        // The global one was not dirty as it came; it goes, though it is another's, and this space has no way there.
        access(run, 64, 1, -4, 1);
        run.rows("count(1) = 2", "cached(1, 0) = throws");
    }

    private static void theEdgesOfAnUpperPlace(Check check) {
        Run run = Run.of(check, "the ADDRESS under it: the first and the last, and what is outside", "root(0, 0)",
                "entry(0, 1, 1, 1, 7)", "entry(1, 1, 1, 2, 7)", "entry(2, 0, 2, 10, 7)", "current(0)", "access(72, 0) = 10",
                "entry(1, 0, 1, 2, 7)", "entry(1, 2, 1, 2, 7)", "entry(0, 0, 1, 1, 7)", "entry(0, 2, 1, 1, 7)", "fence(72, 5) = 0");
        run.rows("steps(73, 0) = 1", "steps(79, 0) = 1", "steps(71, 0) = 3", "steps(80, 0) = 3", "steps(64, 0) = 3",
                "steps(127, 0) = 1", "steps(63, 0) = 3", "steps(128, 0) = 5", "count(8) = 0");
        access(run, 79, 0, -4, 1);
        run.rows("count(8) = 1");
        access(run, 71, 0, -4, 3);
        run.rows("count(8) = 2");
        access(run, 127, 0, -4, 1);
        run.rows("count(8) = 3");
        access(run, 128, 0, 10, 4);
        access(run, 63, 0, -4, 3);
        run.row("count(8) = 3");
    }

    private static void levelOneAheadOfLevelTwo(Check check) {
        new Run(check, "of LEVEL 1 ahead of LEVEL 2 (it is used)").rows(CHAIN).rows("entry(2, 0, 2, 10, 7)", "access(0, 0) = 10",
                "upper(0, 1) = 2", "upper(0, 5) = 1", "upper(1, 1) = 1", "upper(1, 5) = 0", "access(8, 0) = -4", "upper(0, 5) = 0",
                "upper(1, 5) = 1", "access(1, 0) = -4", "upper(1, 5) = 0", "upper(0, 5) = 1", "count(8) = 2");
        new Run(check, "a PLACE of LEVEL 1 stands, though that of LEVEL 2 is gone").rows(CHAIN).rows("entry(2, 0, 2, 10, 7)",
                "entry(0, 1, 1, 3, 7)", "entry(0, 2, 1, 3, 7)", "entry(0, 3, 1, 3, 7)", "entry(0, 4, 1, 3, 7)", "entry(0, 5, 1, 3, 7)",
                "access(0, 0) = 10", "access(64, 0) = -4", "access(128, 0) = -4", "access(192, 0) = -4", "access(256, 0) = -4",
                "count(2) = 6", "access(320, 0) = -4", "upper(0, 2) = 320", "steps(1, 0) = 1", "access(1, 0) = -4", "count(8) = 1");
        // Places 0 and 1 have the address under them, place 2 came last; that of level 2 is not used beside that of level 1.
        new Run(check, "it is used: the one behind which the WALK begins, no other").rows(CHAIN).rows("entry(0, 1, 1, 3, 7)", "access(0, 0) = -4",
                "access(64, 0) = -4", "upper(0, 5) = 2", "upper(1, 5) = 1", "upper(2, 5) = 0", "access(1, 0) = -4", "upper(0, 5) = 2",
                "upper(1, 5) = 0", "upper(2, 5) = 1", "begin(0, 2, 0, true) = 1", "upper(0, 5) = 2");
    }

    private static void anUpperPlaceOfAnotherTag(Check check) {
        Run run = new Run(check, "that has its TAG").rows(CHAIN).rows("entry(2, 0, 2, 10, 7)", "root(1, 0)", "access(0, 0) = 10",
                "current(1) = 1", "count(2) = 2");
        access(run, 0, 0, 10, 3);
        run.rows("count(8) = 0", "count(2) = 4", "count(1) = 2");
    }

    private static void mostSteps(Check check) {
        Run run = new Run(check, "each one STEP; if a mark is set that was not: a STEP more").rows(CHAIN).rows("entry(2, 7, 2, 10, 7)");
        access(run, 7, 7, 10, 6);
        run.row("fenceAll() = 3");
        access(run, 7, 7, 10, 3);
        run.rows("fenceAll() = 3", "marks(1, 0, 0) = 1");
        access(run, 7, 7, 10, 4);
    }
}
