/** Boundary cases of promises 2 (entry), 3 (marks) and 16 (of), sentence by sentence. */
public final class TablesEdgesTest {
    public static void main(String[] args) {
        Check check = new Check();
        everyEntryIsItsOwn(check);
        noneWhateverElse(check);
        leastAndGreatestTable(check);
        leastAndGreatestFrame(check);
        allRights(check);
        everyRightIsAChange(check);
        whatItWas(check);
        refusedEntries(check);
        marksUnlessAsItWas(check);
        allMarks(check);
        marksOfNone(check);
        refusedMarks(check);
        ofNone(check);
        ofOthers(check);
        check.end();
    }

    private static void everyEntryIsItsOwn(Check check) {
        Run run = new Run(check, "TABLES 0 to 11, each of 8 ENTRIES (0 to 7)");
        for (int table = 0; table < 12; table++) {
            for (int i = 0; i < 8; i++) {
                run.is(0, "entry(" + table + ", " + i + ", 2, " + (10 * table + i) + ", " + (table + i) % 16 + ")");
            }
        }
        for (int table = 0; table < 12; table++) {
            for (int i = 0; i < 8; i++) {
                run.is(2, "of(" + table + ", " + i + ", 0)");
                run.is(10 * table + i, "of(" + table + ", " + i + ", 1)");
                run.is((table + i) % 16, "of(" + table + ", " + i + ", 2)");
                run.is(0, "of(" + table + ", " + i + ", 3)");
            }
        }
        run = new Run(check, "MARKS of an ENTRY are its own");
        for (int table = 0; table < 12; table++) {
            for (int i = 0; i < 8; i++) {
                run.row("entry(" + table + ", " + i + ", 2, 0, 0)");
                run.is(0, "marks(" + table + ", " + i + ", " + (table + i) % 4 + ")");
            }
        }
        for (int table = 0; table < 12; table++) {
            for (int i = 0; i < 8; i++) {
                run.is((table + i) % 4, "of(" + table + ", " + i + ", 3)");
            }
        }
    }

    private static void noneWhateverElse(Check check) {
        int[] whatever = {Integer.MIN_VALUE, -2, -1, 0, 12, 16, 1000, Integer.MAX_VALUE};
        for (int target : whatever) {
            for (int rights : whatever) {
                String none = "entry(4, 4, 0, " + target + ", " + rights + ")";
                Run.of(check, "what 0 none (target, rights whatever)", none + " = 0", "count(10) = 0",
                        "entry(4, 4, 2, 7, 7) = 0", none + " = 2", "of(4, 4, 0) = 0", "of(4, 4, 1) = -1",
                        "entry(4, 4, 1, 7, 7) = 0", none + " = 1", none + " = 0", "of(4, 4, 0) = 0", "count(10) = 4");
            }
        }
    }

    private static void leastAndGreatestTable(Check check) {
        Run.of(check, "1 leads to the TABLE target: the least and the greatest", "entry(0, 0, 1, 0, 0) = 0",
                "of(0, 0, 1) = 0", "entry(11, 7, 1, 11, 15) = 0", "of(11, 7, 1) = 11", "entry(0, 0, 1, 11, 0) = 1",
                "of(0, 0, 1) = 11", "entry(11, 7, 1, 0, 15) = 1", "of(11, 7, 1) = 0", "of(0, 0, 0) = 1", "of(11, 7, 0) = 1");
        Run.of(check, "1 leads to the TABLE target: NONE, others", "entry(0, 0, 1, -1, 0) = -1", "entry(0, 0, 1, 12, 0) = -1",
                "entry(0, 0, 1, 999, 0) = -1", "of(0, 0, 0) = 0");
    }

    private static void leastAndGreatestFrame(Check check) {
        Run.of(check, "2 a PAGE of the FRAME target (0 to 999)", "entry(0, 0, 2, 0, 0) = 0", "of(0, 0, 1) = 0",
                "entry(0, 0, 2, 999, 0) = 2", "of(0, 0, 1) = 999", "entry(0, 0, 2, 1000, 0) = -1", "entry(0, 0, 2, -1, 0) = -1",
                "of(0, 0, 1) = 999", "entry(0, 0, 2, 12, 0) = 2", "of(0, 0, 1) = 12");
    }

    private static void allRights(Check check) {
        Run run = new Run(check, "RIGHTS, as bits (1 WRITE, 2 USER, 4 RUN, 8 GLOBAL; none: 0)");
        for (int rights = 0; rights < 16; rights++) {
            run.row("entry(6, 1, 1, 3, " + rights + ")").is(rights, "of(6, 1, 2)");
            run.row("entry(6, 2, 2, 3, " + rights + ")").is(rights, "of(6, 2, 2)");
        }
        run.rows("entry(6, 1, 1, 3, 16) = -1", "entry(6, 1, 1, 3, -1) = -1", "of(6, 1, 2) = 15", "entry(6, 2, 2, 3, 16) = -1",
                "entry(6, 2, 2, 3, -1) = -1", "of(6, 2, 2) = 15");
    }

    private static void everyRightIsAChange(Check check) {
        for (int kind = 1; kind <= 2; kind++) {
            for (int bit = 1; bit <= 8; bit *= 2) {
                String with = "entry(0, 0, " + kind + ", 5, 15) = " + kind;
                String without = "entry(0, 0, " + kind + ", 5, " + (15 - bit) + ") = " + kind;
                Run.of(check, "an ENTRY told with one right more or less is another", "entry(0, 0, " + kind + ", 5, 15) = 0", "marks(0, 0, 3) = 0",
                        without, "count(10) = 2", "of(0, 0, 3) = 0", "marks(0, 0, 3) = 0", without, "count(10) = 2", "of(0, 0, 3) = 3", with,
                        "count(10) = 3", "of(0, 0, 2) = 15", "of(0, 0, 3) = 0").row(without).is(15 - bit, "of(0, 0, 2)");
            }
        }
    }

    private static void whatItWas(Check check) {
        Run run = new Run(check, "what it was (0 to 2)");
        for (int before = 0; before < 3; before++) {
            for (int after = 0; after < 3; after++) {
                run.row("entry(1, 1, " + before + ", 5, 5)");
                run.is(before, "entry(1, 1, " + after + ", 5, 5)");
                run.is(after, "of(1, 1, 0)");
            }
        }
    }

    private static void refusedEntries(Check check) {
        String[] refused = {"-1, 4, 0, 5, 5", "12, 4, 0, 5, 5", "3, -1, 0, 5, 5", "3, 8, 0, 5, 5", "12, 4, 1, 5, 5",
            "3, 8, 2, 5, 5", "3, 4, -1, 5, 5", "3, 4, 3, 5, 5", "3, 4, 1, 12, 5", "3, 4, 2, 1000, 5", "3, 4, 1, 5, 16",
            "3, 4, 2, 5, -1", "2, 12, 0, 5, 5", "4, -4, 2, 5, 5"};
        for (String arguments : refused) {
            Run.of(check, "entry: NONE, others", "entry(3, 4, 2, 77, 5)", "marks(3, 4, 3)", "entry(" + arguments + ") = -1",
                    "of(3, 4, 0) = 2", "of(3, 4, 1) = 77", "of(3, 4, 2) = 5", "of(3, 4, 3) = 3", "count(10) = 1",
                    "count(11) = 1");
        }
    }

    private static void marksUnlessAsItWas(Check check) {
        Run.of(check, "MARKS are 0, unless it is as it was: a PAGE", "entry(0, 0, 2, 10, 1)", "marks(0, 0, 3)",
                "entry(0, 0, 2, 10, 1) = 2", "of(0, 0, 3) = 3");
        Run.of(check, "MARKS are 0, unless it is as it was: a TABLE", "entry(0, 0, 1, 10, 1)", "marks(0, 0, 2)",
                "entry(0, 0, 1, 10, 1) = 1", "of(0, 0, 3) = 2");
        String[] others = {"2, 11, 1", "2, 9, 1", "2, 10, 0", "2, 10, 9", "1, 10, 1"};
        for (String other : others) {
            Run.of(check, "MARKS are 0: it is another", "entry(0, 0, 2, 10, 1)", "marks(0, 0, 3)",
                    "entry(0, 0, " + other + ") = 2", "of(0, 0, 3) = 0", "entry(0, 0, 2, 10, 1)", "of(0, 0, 3) = 0");
        }
        Run.of(check, "MARKS are 0: it was none between", "entry(0, 0, 2, 10, 1)", "marks(0, 0, 3)", "entry(0, 0, 0, 10, 1) = 2",
                "count(11) = 0", "count(12) = 0", "entry(0, 0, 2, 10, 1) = 0", "of(0, 0, 3) = 0");
        Run.of(check, "0 as it is told, and ACCESSED by a walk", "root(0, 0)", "entry(0, 0, 2, 10, 1)", "current(0)",
                "access(0, 1) = 10", "of(0, 0, 3) = 3", "entry(0, 0, 2, 10, 1) = 2", "of(0, 0, 3) = 3",
                "entry(0, 0, 2, 10, 3) = 2", "of(0, 0, 3) = 0");
    }

    private static void allMarks(Check check) {
        for (int kind = 1; kind <= 2; kind++) {
            Run run = new Run(check, "MARKS of an ENTRY that is not none: what they were");
            run.row("entry(11, 0, " + kind + ", 3, 0) = 0");
            for (int before = 0; before < 4; before++) {
                for (int after = 0; after < 4; after++) {
                    run.row("marks(11, 0, " + before + ")").is(before, "marks(11, 0, " + after + ")").is(after, "of(11, 0, 3)");
                    run.is(after % 2, "count(11)").is(after / 2, "count(12)");
                }
            }
            run.is(kind, "of(11, 0, 0)").is(1, "count(10)");
        }
    }

    private static void marksOfNone(Check check) {
        Run.of(check, "marks: NONE, an ENTRY that is none", "marks(0, 0, 0) = -1", "marks(11, 7, 3) = -1", "count(11) = 0",
                "count(12) = 0", "entry(0, 0, 1, 1, 1) = 0", "of(0, 0, 3) = 0", "marks(0, 0, 1) = 0", "marks(0, 1, 1) = -1",
                "marks(1, 0, 1) = -1", "entry(0, 0, 0, 0, 0) = 1", "marks(0, 0, 1) = -1", "of(0, 0, 0) = 0");
    }

    private static void refusedMarks(Check check) {
        Run run = new Run(check, "marks: NONE, others").rows("entry(0, 0, 2, 5, 5)", "entry(11, 7, 2, 5, 5)",
                "marks(0, 0, 2) = 0", "marks(11, 7, 1) = 0");
        String[] refused = {"0, 0, 4", "0, 0, -1", "11, 7, 4", "11, 7, 7", "-1, 0, 3", "12, 7, 3", "0, -1, 3", "11, 8, 3",
            "1, -8, 3", "10, 15, 3", "0, 0, 2147483647", "0, 0, -2147483648"};
        for (String arguments : refused) {
            run.row("marks(" + arguments + ") = -1");
        }
        run.rows("of(0, 0, 3) = 2", "of(11, 7, 3) = 1", "count(11) = 1", "count(12) = 1");
    }

    private static void ofNone(Check check) {
        Run.of(check, "of: NONE, (1 to 3) none", "of(0, 0, 0) = 0", "of(0, 0, 1) = -1", "of(0, 0, 2) = -1", "of(0, 0, 3) = -1",
                "entry(0, 0, 2, 0, 0)", "of(0, 0, 0) = 2", "of(0, 0, 1) = 0", "of(0, 0, 2) = 0", "of(0, 0, 3) = 0",
                "entry(0, 0, 0, 0, 0)", "of(0, 0, 0) = 0", "of(0, 0, 1) = -1", "of(0, 0, 2) = -1", "of(0, 0, 3) = -1");
    }

    private static void ofOthers(Check check) {
        Run run = new Run(check, "of: NONE, others").rows("entry(0, 0, 2, 5, 5)", "entry(11, 7, 2, 5, 5)", "of(0, 0, 0) = 2",
                "of(11, 7, 3) = 0");
        String[] others = {"0, 0, -1", "0, 0, 4", "11, 7, 4", "1, 1, 4", "1, 1, -1", "-1, 0, 0", "12, 0, 0", "0, -1, 0",
            "0, 8, 0", "1, -8, 0", "10, 15, 0", "-1, 8, 0", "12, -8, 0", "2147483647, 0, 0", "0, -2147483648, 0"};
        for (String arguments : others) {
            run.row("of(" + arguments + ") = -1");
        }
    }
}
