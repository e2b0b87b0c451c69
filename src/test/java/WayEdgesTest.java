/** Boundary cases of promises 15 (way), 21 (reverse) and 22 (through), sentence by sentence. */
public final class WayEdgesTest {
    public static void main(String[] args) {
        Check check = new Check();
        everyAddress(check);
        faults(check);
        others(check);
        nothingWanted(check);
        rightsAsInTheCache(check);
        marksOfThePage(check);
        asItIsNow(check);
        ofASpaceThatIsNotCurrent(check);
        reverseLeastAndGreatest(check);
        reverseOfAll(check);
        reverseUpwards(check);
        reverseOfFaults(check);
        reverseOthers(check);
        throughEveryLevel(check);
        throughEndsByAFault(check);
        throughOnceEach(check);
        throughOthers(check);
        check.end();
    }

    /** Entries of the root down to a level lead on to the next table, all eight of each; those of that level are pages. */
    private static Run pagesOf(Check check, String sentence, int level) {
        Run run = Run.of(check, sentence, "root(5, 0)");
        for (int at = 2; at >= level; at--) {
            for (int i = 0; i < 8; i++) {
                run.row("entry(" + (2 - at) + ", " + i + ", " + (at == level ? "2, " + 100 * i : "1, " + (3 - at)) + ", 7) = 0");
            }
        }
        return run;
    }

    private static void everyAddress(Check check) {
        int[] wide = {1, 8, 64};
        for (int level = 0; level <= 2; level++) {
            String sentence = "An ADDRESS is 0 to 511: 64 a and 8 b and c; pages of LEVEL " + level;
            for (int from = 0; from < 512; from += 128) {
                Run run = pagesOf(check, sentence, level);
                for (int address = from; address < from + 128; address++) {
                    int digit = address / wide[level] % 8;
                    run.is(100 * digit + address % wide[level], "way(5, " + address + ", 0)").is(level, "way(5, " + address + ", 1)");
                }
            }
        }
    }

    private static Run tells(Run run, int space, int address, int... due) {
        for (int what = 0; what < due.length; what++) {
            run.is(due[what], "way(" + space + ", " + address + ", " + what + ")");
        }
        return run;
    }

    private static void faults(Check check) {
        Run run = new Run(check, "the FRAME (-2 less the FAULT); NONE: (1 to 3) a FAULT");
        tells(run, 0, 0, -3, -1, -1, -1);
        tells(run, 5, 511, -3, -1, -1, -1);
        run.row("root(0, 11)");
        tells(run, 0, 0, -4, -1, -1, -1);
        run.row("entry(11, 0, 1, 1, 7)");
        tells(run, 0, 0, -4, -1, -1, -1);
        run.row("entry(1, 0, 1, 2, 7)");
        tells(run, 0, 0, -4, -1, -1, -1);
        run.row("entry(2, 0, 1, 2, 7)");
        tells(run, 0, 0, -5, -1, -1, -1);
        run.row("entry(2, 0, 2, 0, 0)");
        tells(run, 0, 0, 0, 0, 0, 0);
        tells(run, 0, 1, -4, -1, -1, -1);
        run.row("root(0, -1)");
        tells(run, 0, 0, -3, -1, -1, -1);
    }

    private static void others(Check check) {
        Run run = Run.of(check, "way: NONE, others", "root(0, 0)", "root(5, 0)", "entry(0, 0, 2, 10, 7)", "entry(0, 7, 2, 10, 7)");
        String[] others = {"-1, 0, 0", "6, 0, 0", "0, -1, 0", "0, 512, 0", "0, 0, -1", "0, 0, 4", "5, 511, 4", "0, 64, -1", "0, 64, 4",
            "1, 0, 4", "1, 0, -1", "-1, 512, 4", "2147483647, 0, 0", "-2147483648, 0, 0", "0, 2147483647, 0", "0, -2147483648, 0",
            "0, 0, 2147483647", "0, 0, -2147483648"};
        for (String arguments : others) {
            run.row("way(" + arguments + ") = -1");
        }
        run.rows("way(0, 0, 0) = 10", "way(5, 511, 0) = 73");
    }

    private static void nothingWanted(Check check) {
        Run run = Run.of(check, "The WAY as it is now, nothing wanted", "root(3, 0)", "entry(0, 0, 1, 1, 0)", "entry(1, 0, 1, 2, 0)",
                "entry(2, 7, 2, 999, 0)");
        tells(run, 3, 7, 999, 0, 0, 0);
        run.rows("entry(0, 7, 2, 999, 0)");
        tells(run, 3, 511, 1062, 2, 0, 0);
        run.row("current(3)");
        tells(run, 3, 7, 999, 0, 0, 0);
        tells(run, 3, 511, 1062, 2, 0, 0);
    }

    private static void rightsAsInTheCache(Check check) {
        int[][] rights = {{15, 15, 15, 15}, {15, 15, 7, 7}, {7, 7, 15, 15}, {7, 7, 8, 8}, {6, 7, 15, 14}, {7, 5, 7, 5}, {3, 6, 12, 8},
            {8, 8, 7, 0}, {1, 2, 4, 0}, {0, 7, 7, 0}};
        for (int[] r : rights) {
            Run.of(check, "RIGHTS (WRITE, USER, RUN of all ENTRIES together, GLOBAL of the PAGE)", "root(0, 0)",
                    "entry(0, 0, 1, 1, " + r[0] + ")", "entry(1, 0, 1, 2, " + r[1] + ")", "entry(2, 0, 2, 50, " + r[2] + ")",
                    "current(0)", "access(0, 0) = 50").is(r[3], "way(0, 0, 2)").is(r[3], "cached(0, 4)").is(r[0] & 7, "upper(0, 4)")
                    .is(r[0] & r[1] & 7, "upper(1, 4)");
        }
    }

    private static void marksOfThePage(Check check) {
        for (int level = 0; level <= 2; level++) {
            Run run = pagesOf(check, "way, what 3: MARKS of the PAGE", level);
            for (int marks = 3; marks >= 0; marks--) {
                run.row("marks(" + (2 - level) + ", 0, " + marks + ")").is(marks, "way(5, 0, 3)");
            }
            run.rows("marks(" + (2 - level) + ", 1, 3) = 0", "way(5, 0, 3) = 0");
        }
    }

    private static void asItIsNow(Check check) {
        Run.of(check, "the WAY as it is now, whatever the caches have", "root(0, 0)", "entry(0, 0, 2, 50, 7)", "current(0)", "access(0, 1)",
                "entry(0, 0, 2, 60, 7)", "access(0, 1) = 50", "way(0, 0, 0) = 60", "way(0, 0, 3) = 0", "root(0, -1)", "access(0, 1) = 50",
                "way(0, 0, 0) = -3", "count(7) = 2");
    }

    private static void ofASpaceThatIsNotCurrent(Check check) {
        Run run = Run.of(check, "in a SPACE, CURRENT or not", "root(0, 0)", "root(4, 5)", "entry(0, 0, 2, 50, 7)", "entry(5, 0, 2, 300, 8)",
                "entry(5, 7, 1, 6, 0)", "current(0)", "access(0, 0) = 50");
        tells(run, 4, 1, 301, 2, 8, 0);
        tells(run, 4, 511, -4, -1, -1, -1);
        run.rows("reverse(4, 301, -1) = 1", "reverse(4, 301, 0) = 1", "reverse(4, 51, -1) = 0", "reverse(0, 51, 0) = 1", "reverse(0, 301, 0) = -1",
                "through(4, 5, 0) = 64", "through(4, 6, 7) = 8", "through(4, 0, 0) = 0", "through(0, 0, 0) = 64", "through(0, 5, 0) = 0");
        run.rows("entry(0, 0, 2, 60, 7)", "access(0, 0) = 50", "reverse(0, 51, -1) = 0", "reverse(0, 61, 0) = 1");
    }

    private static void reverseLeastAndGreatest(Check check) {
        Run.of(check, "reverse: the least and the greatest FRAME and ADDRESS", "root(5, 0)", "entry(0, 0, 2, 0, 0)", "entry(0, 7, 2, 999, 0)",
                "reverse(5, 0, -1) = 1", "reverse(5, 0, 0) = 0", "reverse(5, 63, 0) = 63", "reverse(5, 64, 0) = -1", "reverse(5, 64, -1) = 0",
                "reverse(5, 998, -1) = 0", "reverse(5, 999, 0) = 448", "reverse(5, 1062, -1) = 1", "reverse(5, 1062, 0) = 511",
                "reverse(5, 1062, 1) = -1", "reverse(5, 1063, -1) = 0", "reverse(5, 1063, 0) = -1", "reverse(0, 0, -1) = 0",
                "reverse(0, 0, 0) = -1", "reverse(5, -1, -1) = 0", "reverse(5, -1, 0) = -1");
    }

    private static void reverseOfAll(Check check) {
        Run run = Run.of(check, "reverse: all ADDRESSES have it", "root(0, 0)");
        for (int i = 0; i < 8; i++) {
            run.rows("entry(0, " + i + ", 1, 1, 0)", "entry(1, " + i + ", 1, 2, 0)", "entry(2, " + i + ", 2, 7, 0)");
        }
        run.rows("reverse(0, 7, -1) = 512", "reverse(0, 7, 0) = 0", "reverse(0, 7, 1) = 1", "reverse(0, 7, 510) = 510",
                "reverse(0, 7, 511) = 511", "reverse(0, 7, 512) = -1", "reverse(0, 7, 2147483647) = -1", "reverse(0, 7, -2) = -1",
                "reverse(0, 6, -1) = 0", "reverse(0, 8, -1) = 0");
    }

    private static void reverseUpwards(Check check) {
        // Frame 63 is that of 63 by a wide page of 0, of 135 by one of 8 wide of 56, of 450 by one of 1.
        Run.of(check, "The i-th ADDRESS (upwards)", "root(0, 0)", "entry(0, 0, 2, 0, 0)", "entry(0, 2, 1, 1, 0)", "entry(1, 0, 2, 56, 0)",
                "entry(0, 7, 1, 2, 0)", "entry(2, 0, 1, 3, 0)", "entry(3, 2, 2, 63, 0)", "reverse(0, 63, -1) = 3", "reverse(0, 63, 0) = 63",
                "reverse(0, 63, 1) = 135", "reverse(0, 63, 2) = 450", "reverse(0, 63, 3) = -1", "entry(0, 0, 0, 0, 0)",
                "reverse(0, 63, -1) = 2", "reverse(0, 63, 0) = 135");
    }

    private static void reverseOfFaults(Check check) {
        Run run = Run.of(check, "a FAULT is no FRAME", "root(0, 0)", "entry(0, 0, 1, 1, 0)", "entry(1, 0, 1, 2, 0)", "entry(2, 0, 1, 3, 0)");
        for (int frame = -7; frame < 0; frame++) {
            run.is(0, "reverse(0, " + frame + ", -1)").is(0, "reverse(1, " + frame + ", -1)").is(-1, "reverse(0, " + frame + ", 0)");
        }
    }

    private static void reverseOthers(Check check) {
        Run run = Run.of(check, "reverse: NONE, others, none such", "root(0, 0)", "root(5, 0)", "entry(0, 0, 2, 0, 0)");
        String[] others = {"-1, 0, -1", "6, 0, -1", "-1, 0, 0", "6, 0, 0", "0, 0, -2", "5, 0, -3", "0, 0, 1", "0, 0, -2147483648",
            "2147483647, 0, -1", "-2147483648, 0, -1", "0, 64, 0", "0, -2147483648, 0", "0, 2147483647, 0"};
        for (String arguments : others) {
            run.row("reverse(" + arguments + ") = -1");
        }
        run.rows("reverse(0, -2147483648, -1) = 0", "reverse(0, 2147483647, -1) = 0", "reverse(5, 0, 0) = 0");
    }

    private static void throughEveryLevel(Check check) {
        Run.of(check, "have an ENTRY on their WAY: of LEVEL 2, 1, 0", "through(0, 0, 0) = 0", "through(5, 11, 7) = 0", "root(5, 11)",
                "through(5, 11, 0) = 64", "through(5, 11, 7) = 64", "through(5, 0, 0) = 0", "entry(11, 7, 1, 0, 0)", "through(5, 0, 0) = 8",
                "through(5, 0, 7) = 8", "entry(0, 0, 1, 1, 0)", "through(5, 1, 0) = 1", "through(5, 1, 7) = 1", "through(5, 11, 7) = 64",
                "through(0, 11, 7) = 0", "root(5, -1)", "through(5, 11, 7) = 0");
    }

    private static void throughEndsByAFault(Check check) {
        Run.of(check, "also one at which it ends by a FAULT", "root(0, 0)", "through(0, 0, 3) = 64", "entry(0, 0, 1, 1, 0)",
                "through(0, 1, 3) = 8", "entry(1, 0, 1, 2, 0)", "through(0, 2, 3) = 1", "entry(2, 3, 1, 4, 0)", "through(0, 2, 3) = 1",
                "through(0, 4, 0) = 0");
        Run.of(check, "behind a PAGE there is no WAY", "root(0, 0)", "entry(0, 0, 2, 1, 7)", "through(0, 0, 0) = 64", "through(0, 1, 0) = 0",
                "entry(0, 1, 1, 1, 7)", "entry(1, 0, 2, 2, 7)", "through(0, 1, 0) = 8", "through(0, 2, 0) = 0");
    }

    private static void throughOnceEach(Check check) {
        Run run = Run.of(check, "How many ADDRESSES have it, at whichever LEVEL", "root(0, 0)");
        for (int i = 0; i < 8; i++) {
            run.row("entry(0, " + i + ", 1, 0, 7)");
        }
        // All but those without this digit in any of the three.
        run.rows("through(0, 0, 0) = 169", "through(0, 0, 7) = 169", "entry(0, 7, 0, 0, 0)", "through(0, 0, 7) = 169",
                "through(0, 0, 0) = 148");
    }

    private static void throughOthers(Check check) {
        Run run = Run.of(check, "through: NONE, others", "root(0, 0)", "root(5, 11)");
        String[] others = {"-1, 0, 0", "6, 0, 0", "0, -1, 0", "0, 12, 0", "0, 0, -1", "0, 0, 8", "0, 1, -8", "5, 10, 15", "1, 12, 0",
            "1, 0, 8", "2147483647, 0, 0", "-2147483648, 0, 0", "0, 2147483647, 0", "0, -2147483648, 0", "0, 0, 2147483647",
            "0, 0, -2147483648"};
        for (String arguments : others) {
            run.row("through(" + arguments + ") = -1");
        }
        run.rows("through(0, 0, 0) = 64", "through(5, 11, 7) = 64");
    }
}
