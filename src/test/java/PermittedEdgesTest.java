/** Boundary cases of promises 19 (permitted) and 20 (many), sentence by sentence. */
public final class PermittedEdgesTest {
    public static void main(String[] args) {
        Check check = new Check();
        nothingAtFirst(check);
        leastAndGreatest(check);
        noFrameForAnother(check);
        others(check);
        sinceTheLatestFence(check);
        fencesOfOthers(check);
        asItWasAtTheFence(check);
        spacesWithoutATagOrARoot(check);
        anyOfThem(check);
        globalInAnySpace(check);
        globalOfThePage(check);
        globalSinceTheFenceOfAll(check);
        whatIsNoChange(check);
        fortyAreRemembered(check);
        theOldestOfForty(check);
        rootsAmongTheForty(check);
        roundTheForty(check);
        globalAmongTheForty(check);
        afterManyFences(check);
        whatCachesHave(check);
        check.end();
    }

    /** Changes that are of no concern to the way of any address here: those of entries of table 9. */
    private static Run changes(Run run, int from, int many) {
        for (int n = from; n < from + many; n++) {
            run.row("entry(9, " + n % 8 + ", 2, " + n + ", 0)");
        }
        return run;
    }

    private static void nothingAtFirst(Check check) {
        Run run = new Run(check, "nothing is PERMITTED in a new object");
        for (int space = 0; space < 6; space++) {
            run.is(0, "many(" + space + ", 0)").is(0, "many(" + space + ", 511)").is(0, "permitted(" + space + ", 0, 0)")
                    .is(0, "permitted(" + space + ", 511, 999)");
        }
        run.rows("root(0, 0)", "many(0, 0) = 0", "entry(0, 0, 1, 1, 7)", "many(0, 0) = 0", "entry(1, 0, 1, 2, 7)", "many(0, 0) = 0",
                "entry(2, 0, 1, 3, 7)", "many(0, 0) = 0", "entry(2, 0, 2, 0, 0)", "many(0, 0) = 1", "permitted(0, 0, 0) = 1");
    }

    private static void leastAndGreatest(Check check) {
        Run.of(check, "the least and the greatest SPACE, ADDRESS and FRAME", "root(5, 0)", "entry(0, 0, 2, 0, 0)", "entry(0, 7, 2, 999, 0)",
                "permitted(5, 0, 0) = 1", "permitted(5, 0, 1) = 0", "permitted(5, 0, -1) = 0", "permitted(5, 63, 63) = 1",
                "permitted(5, 63, 62) = 0", "permitted(5, 64, 64) = 0", "permitted(5, 448, 999) = 1", "permitted(5, 448, 998) = 0",
                "permitted(5, 448, 1000) = 0", "permitted(5, 511, 1062) = 1", "permitted(5, 511, 1061) = 0", "permitted(5, 511, 1063) = 0",
                "permitted(5, 511, 999) = 0", "many(5, 0) = 1", "many(5, 511) = 1", "many(5, 447) = 0", "many(0, 0) = 0",
                "permitted(0, 0, 0) = 0");
        Run.of(check, "the FRAME of the ADDRESS, of a PAGE of LEVEL 1", "root(0, 0)", "entry(0, 0, 1, 1, 0)", "entry(1, 7, 2, 999, 0)",
                "permitted(0, 63, 1006) = 1", "permitted(0, 56, 999) = 1", "permitted(0, 55, 998) = 0", "many(0, 55) = 0",
                "permitted(0, 63, 999) = 0");
    }

    /** Frames 0 to 40 are all permitted at once, and none of the numbers around them is. */
    private static void noFrameForAnother(Check check) {
        Run run = Run.of(check, "a number that is no FRAME is not PERMITTED, whatever FRAMES are", "root(0, 0)");
        for (int frame = 0; frame <= 40; frame++) {
            run.row("entry(0, 0, 2, " + frame + ", 0)");
        }
        run.row("many(0, 0) = 41");
        for (int frame = -70; frame <= 110; frame++) {
            run.is(frame >= 0 && frame <= 40 ? 1 : 0, "permitted(0, 0, " + frame + ")");
        }
        for (int k = 10; k < 32; k++) {
            run.is(0, "permitted(0, 0, " + (1 << k) + ")").is(0, "permitted(0, 0, " + ((1 << k) + 5) + ")");
        }
    }

    private static void others(Check check) {
        Run run = Run.of(check, "permitted: false, others; many: NONE, others", "root(0, 0)", "root(5, 0)", "entry(0, 0, 2, 10, 15)",
                "entry(0, 7, 2, 10, 15)");
        String[] others = {"-1, 0", "6, 0", "0, -1", "0, 512", "5, 512", "6, 511", "-1, -1", "2147483647, 0", "-2147483648, 0",
            "0, 2147483647", "0, -2147483648"};
        for (String arguments : others) {
            run.row("permitted(" + arguments + ", 10) = 0").row("permitted(" + arguments + ", 73) = 0").row("many(" + arguments + ") = -1");
        }
        int[] frames = {Integer.MIN_VALUE, -1000, -6, -5, -4, -3, -2, -1, 1000, 1063, 1064, 1087, 1088, 1098, 2048, Integer.MAX_VALUE};
        for (int frame : frames) {
            run.is(0, "permitted(0, 0, " + frame + ")").is(0, "permitted(5, 511, " + frame + ")");
        }
        run.rows("permitted(0, 0, 10) = 1", "permitted(5, 511, 73) = 1", "many(0, 0) = 1");
    }

    private static void sinceTheLatestFence(Check check) {
        String[] fences = {"fence(0, 0)", "fenceSpace(0)", "fenceAll()"};
        for (String fence : fences) {
            Run run = Run.of(check, "since the latest FENCE of the SPACE, of the ADDRESS in it or of all: " + fence, "root(0, 0)",
                    "entry(0, 0, 2, 100, 0)", "entry(0, 0, 2, 200, 0)", "many(0, 0) = 2").row(fence);
            run.rows("many(0, 0) = 1", "permitted(0, 0, 100) = 0", "permitted(0, 0, 200) = 1", "entry(0, 0, 2, 300, 0)", "many(0, 0) = 2",
                    "permitted(0, 0, 200) = 1", "permitted(0, 0, 300) = 1").row(fence).rows("many(0, 0) = 1", "permitted(0, 0, 300) = 1");
            run.row(fence).row("many(0, 0) = 1").is(fence.equals("fence(0, 0)") ? 3 : 1, "many(0, 1)");
            run.rows("entry(0, 0, 0, 0, 0)", "many(0, 0) = 1").row(fence).rows("many(0, 0) = 0", "count(10) = 5");
        }
        // Whichever of the three was the latest counts, in every order.
        for (int first = 0; first < 3; first++) {
            for (int second = 0; second < 3; second++) {
                Run.of(check, "the latest of two FENCES", "root(0, 0)", "entry(0, 0, 2, 100, 0)", fences[first], "entry(0, 0, 2, 200, 0)",
                        "entry(0, 0, 2, 300, 0)", fences[second], "many(0, 0) = 1", "entry(0, 0, 2, 400, 0)", "many(0, 0) = 2",
                        "permitted(0, 0, 200) = 0", "permitted(0, 0, 300) = 1");
            }
        }
    }

    private static void fencesOfOthers(Check check) {
        Run run = Run.of(check, "a FENCE of another SPACE or of another ADDRESS", "root(0, 0)", "root(1, 0)", "root(5, 0)",
                "entry(0, 0, 2, 100, 0)", "entry(0, 7, 2, 100, 0)", "entry(0, 0, 2, 200, 0)", "entry(0, 7, 2, 200, 0)");
        run.rows("fence(1, 0)", "fence(0, 1)", "fence(510, 0)", "fence(511, 1)", "many(0, 0) = 2", "many(0, 511) = 2", "many(0, 1) = 1",
                "many(1, 0) = 1", "many(0, 510) = 1", "many(1, 511) = 1", "many(5, 511) = 2", "fenceSpace(1)", "many(0, 0) = 2",
                "many(1, 1) = 1", "many(5, 0) = 2", "fence(511, 5)", "many(5, 511) = 1", "many(5, 510) = 2", "fence(511, 0)",
                "many(0, 511) = 1", "many(0, 0) = 2", "fenceSpace(5)", "many(5, 0) = 1", "many(0, 0) = 2");
        Run.of(check, "a refused FENCE is none", "root(0, 0)", "entry(0, 0, 2, 100, 0)", "entry(0, 0, 2, 200, 0)", "fence(0, 6) = -1",
                "fence(512, 0) = -1", "fence(-1, 0) = -1", "fence(0, -1) = -1", "fenceSpace(-1) = -1", "fenceSpace(6) = -1", "many(0, 0) = 2");
    }

    private static void asItWasAtTheFence(Check check) {
        Run.of(check, "as any of them was since: what it was at the FENCE counts, though it was told ahead of it", "root(0, 0)",
                "entry(0, 0, 1, 1, 0)", "entry(1, 0, 2, 100, 0)", "fenceAll()", "entry(0, 0, 0, 0, 0)", "many(0, 0) = 1",
                "entry(1, 0, 2, 200, 0)", "many(0, 0) = 2", "root(0, -1)", "many(0, 0) = 2", "fence(0, 0)", "many(0, 0) = 0", "root(0, 0)",
                "many(0, 0) = 0", "entry(0, 0, 1, 1, 0)", "many(0, 0) = 1", "permitted(0, 0, 200) = 1", "permitted(0, 7, 107) = 1",
                "permitted(0, 7, 207) = 1", "many(0, 7) = 2");
    }

    private static void spacesWithoutATagOrARoot(Check check) {
        Run.of(check, "a SPACE without a TAG", "root(3, 0)", "entry(0, 0, 2, 100, 0)", "space(3, 1) = -1", "permitted(3, 0, 100) = 1",
                "fenceSpace(3) = 0", "many(3, 0) = 1", "entry(0, 0, 2, 200, 0)", "many(3, 0) = 2", "fence(0, 3) = 0", "many(3, 0) = 1");
        Run.of(check, "a SPACE that has no ROOT any more", "root(3, 0)", "entry(0, 0, 2, 100, 0)", "root(3, -1)", "permitted(3, 0, 100) = 1",
                "many(3, 0) = 1", "fenceSpace(3) = 0", "many(3, 0) = 0");
        Run.of(check, "a TAG that is recycled is no FENCE", "root(0, 0)", "root(1, 0)", "root(2, 0)", "root(3, 0)", "entry(0, 0, 2, 100, 0)",
                "current(0)", "entry(0, 0, 2, 200, 0)", "current(1)", "current(2)", "current(3) = 0", "many(0, 0) = 2", "many(3, 0) = 2");
    }

    private static void anyOfThem(Check check) {
        Run.of(check, "by ROOTS and ENTRIES as any of them was: an old ROOT with a new ENTRY", "root(0, 0)", "root(0, 1)", "entry(0, 0, 2, 100, 0)",
                "many(0, 0) = 1", "entry(1, 0, 2, 200, 0)", "many(0, 0) = 2", "entry(0, 0, 2, 300, 0)", "many(0, 0) = 3");
        // One and the same entry stands on the way at three levels, and may be something else at each.
        Run.of(check, "an ENTRY that is on the WAY more than once", "root(0, 0)", "entry(0, 0, 2, 100, 0)", "entry(0, 0, 1, 0, 0)", "many(0, 0) = 1",
                "permitted(0, 0, 100) = 1", "many(0, 63) = 1", "permitted(0, 63, 163) = 1", "permitted(0, 1, 101) = 1", "many(0, 1) = 1",
                "permitted(0, 8, 108) = 1", "permitted(0, 8, 100) = 0", "many(0, 7) = 1", "permitted(0, 7, 107) = 1", "permitted(0, 7, 100) = 0");
        Run.of(check, "the same FRAME by two WAYS counts once", "root(0, 0)", "entry(0, 0, 2, 100, 0)", "root(0, 1)", "entry(1, 0, 2, 100, 15)",
                "many(0, 0) = 1", "entry(1, 0, 1, 2, 0)", "entry(2, 0, 2, 100, 0)", "many(0, 0) = 1", "many(0, 8) = 1", "many(0, 7) = 1",
                "entry(2, 1, 2, 100, 0)", "many(0, 9) = 2", "permitted(0, 9, 101) = 1", "permitted(0, 9, 109) = 1");
        Run.of(check, "an ENTRY of LEVEL 0 that leads to a TABLE is no WAY", "root(0, 0)", "entry(0, 0, 1, 1, 0)", "entry(1, 0, 1, 2, 0)",
                "entry(2, 0, 1, 3, 0)", "entry(3, 0, 2, 50, 15)", "many(0, 0) = 0", "entry(1, 0, 1, 3, 0)", "many(0, 0) = 1");
    }

    private static void globalInAnySpace(Check check) {
        Run run = Run.of(check, "or, in any SPACE, a WAY of the ADDRESS to it that ends with a GLOBAL PAGE", "root(5, 11)",
                "entry(11, 7, 2, 999, 8)");
        for (int space = 0; space < 6; space++) {
            run.is(1, "permitted(" + space + ", 511, 1062)").is(1, "many(" + space + ", 448)").is(0, "many(" + space + ", 447)");
        }
        run.rows("entry(0, 7, 2, 5, 7)", "root(0, 0)", "many(0, 448) = 2", "many(5, 448) = 1", "many(1, 448) = 1", "entry(11, 7, 2, 5, 7)",
                "many(5, 448) = 2", "many(1, 448) = 1", "permitted(1, 448, 5) = 0", "permitted(1, 448, 999) = 1");
    }

    private static void globalOfThePage(Check check) {
        Run.of(check, "ends with a GLOBAL PAGE: GLOBAL ENTRIES ahead do not make it so", "root(0, 0)", "entry(0, 0, 1, 1, 15)",
                "entry(1, 0, 1, 2, 15)", "entry(2, 0, 2, 50, 7)", "many(1, 0) = 0", "many(0, 0) = 1", "entry(2, 0, 2, 50, 8)", "many(1, 0) = 1",
                "entry(0, 0, 1, 1, 0)", "entry(1, 0, 1, 2, 0)", "fenceAll()", "many(1, 0) = 1", "permitted(1, 0, 50) = 1");
    }

    private static void globalSinceTheFenceOfAll(Check check) {
        Run.of(check, "by those as they were since the latest FENCE of all, of no other", "root(0, 0)", "entry(0, 0, 2, 100, 8)",
                "entry(0, 0, 2, 200, 8)", "fenceSpace(0)", "fence(0, 0)", "fenceSpace(1)", "fence(0, 1)", "many(0, 0) = 2", "many(1, 0) = 2",
                "fenceAll()", "many(0, 0) = 1", "many(1, 0) = 1", "entry(0, 0, 2, 200, 0)", "many(1, 0) = 1", "permitted(1, 0, 200) = 1",
                "fenceSpace(1)", "permitted(1, 0, 200) = 1", "fenceAll()", "many(1, 0) = 0", "many(0, 0) = 1");
        Run.of(check, "by ROOTS that were since the FENCE of all", "root(4, 0)", "entry(0, 0, 2, 100, 8)", "root(4, -1)", "many(1, 0) = 1",
                "fenceSpace(4)", "many(1, 0) = 1", "many(4, 0) = 1", "fenceAll()", "many(1, 0) = 0", "root(3, 0)", "many(1, 0) = 1");
        Run.of(check, "by those as they were: a ROOT that was with a GLOBAL PAGE that is", "root(4, 0)", "root(4, 1)", "entry(0, 0, 2, 100, 8)",
                "many(2, 0) = 1", "permitted(2, 63, 163) = 1", "fenceAll()", "many(2, 0) = 0");
        Run.of(check, "by those as they were: an ENTRY that led on with a GLOBAL PAGE that is", "root(4, 0)", "entry(0, 0, 1, 1, 0)",
                "entry(0, 0, 0, 0, 0)", "entry(1, 0, 2, 100, 8)", "many(2, 0) = 1", "many(4, 7) = 1", "fence(0, 4)", "many(4, 0) = 1", "fenceAll()",
                "many(2, 0) = 0", "many(4, 7) = 0");
    }

    private static void whatIsNoChange(Check check) {
        Run run = Run.of(check, "What was told again alike is no change", "root(0, 0)", "entry(0, 0, 2, 100, 7)", "entry(0, 0, 2, 200, 7)");
        changes(run, 0, 37).rows("count(10) = 40", "permitted(0, 0, 100) = 1");
        changes(run, 37, 2).row("permitted(0, 0, 100) = 1");
        run.rows("entry(0, 0, 2, 200, 7) = 2", "root(0, 0) = 0", "root(1, -1) = -1", "entry(8, 0, 0, 5, 5) = 0", "marks(0, 0, 3) = 0",
                "entry(0, 0, 2, 1000, 7) = -1", "entry(12, 0, 2, 1, 7) = -1", "root(0, 12) = -2", "root(6, 0) = -2", "current(0) = 0",
                "access(0, 0) = 200", "fence(1, 0)", "fenceSpace(1)", "permitted(0, 0, 100) = 1", "count(10) = 40");
        changes(run, 39, 1).rows("permitted(0, 0, 100) = 0", "many(0, 0) = 1", "count(10) = 40");
    }

    private static void fortyAreRemembered(Check check) {
        Run run = new Run(check, "the latest 40 of all are remembered");
        for (int n = 0; n < 45; n++) {
            run.is(Math.min(n, 40), "count(10)");
            run.row(n % 3 == 0 ? "root(" + n % 2 + ", " + n % 12 + ")" : "entry(9, 0, 2, " + n + ", 0)");
        }
        run.rows("count(10) = 40", "fenceAll()", "count(10) = 40", "fenceSpace(0)", "fence(0, 0)", "count(10) = 40");
    }

    private static void theOldestOfForty(Check check) {
        // Change 3 is that from 100 to 200; with 39 more it is the oldest of the forty, with 40 it is not among them.
        Run run = Run.of(check, "what was ahead of them is not: of an ENTRY", "root(0, 0)", "entry(0, 0, 2, 100, 7)", "entry(0, 0, 2, 200, 7)");
        changes(run, 0, 39).rows("many(0, 0) = 2", "permitted(0, 0, 100) = 1");
        changes(run, 39, 1).rows("many(0, 0) = 1", "permitted(0, 0, 100) = 0", "permitted(0, 0, 200) = 1");
        changes(run, 40, 100).rows("many(0, 0) = 1", "permitted(0, 0, 200) = 1", "fenceAll()", "permitted(0, 0, 200) = 1");
        // What it is now needs no memory, nor does a fence bring back what is forgotten.
        run.rows("entry(0, 0, 2, 300, 7)", "many(0, 0) = 2");
        changes(run, 140, 39).row("many(0, 0) = 2");
        changes(run, 179, 1).row("many(0, 0) = 1");
    }

    private static void rootsAmongTheForty(Check check) {
        Run run = Run.of(check, "what was ahead of them is not: of a ROOT", "entry(0, 0, 2, 100, 7)", "entry(1, 0, 2, 200, 7)", "root(5, 0)",
                "root(5, 1)");
        changes(run, 0, 20);
        for (int n = 0; n < 19; n++) {
            run.row("root(4, " + n % 2 + ")");
        }
        run.rows("many(5, 0) = 2", "permitted(5, 0, 100) = 1", "root(4, -1)", "many(5, 0) = 1", "permitted(5, 0, 100) = 0",
                "permitted(5, 0, 200) = 1");
        // The oldest of the forty is that of the root, and yet the fence is later: it does not count.
        run = Run.of(check, "remembered, but ahead of the FENCE: of a ROOT", "entry(0, 0, 2, 100, 7)", "entry(1, 0, 2, 200, 7)", "root(5, 0)",
                "root(5, 1)", "fenceSpace(5)", "many(5, 0) = 1");
        changes(run, 0, 39).rows("many(5, 0) = 1", "permitted(5, 0, 100) = 0");
        changes(run, 39, 1).row("many(5, 0) = 1");
        run = Run.of(check, "remembered, but ahead of the FENCE: of an ENTRY", "root(5, 0)", "entry(0, 0, 2, 100, 7)", "entry(0, 0, 2, 200, 7)",
                "fence(0, 5)", "many(5, 0) = 1");
        changes(run, 0, 39).rows("many(5, 0) = 1", "permitted(5, 0, 100) = 0");
        changes(run, 39, 1).row("many(5, 0) = 1");
    }

    private static void roundTheForty(Check check) {
        // After n tellings the frames n - 41 to n - 1 are known: what it is, and what it was ahead of each of forty changes.
        Run run = new Run(check, "the latest 40, round and round").row("root(0, 0)");
        for (int n = 1; n <= 130; n++) {
            run.row("entry(0, 0, 2, " + (n - 1) + ", 0)").is(Math.min(n, 41), "many(0, 0)");
            if (n > 41 && n % 2 == 0) {
                run.is(1, "permitted(0, 0, " + (n - 41) + ")").is(0, "permitted(0, 0, " + (n - 42) + ")").is(1, "permitted(0, 0, " + (n - 1) + ")");
            }
        }
        run = Run.of(check, "a FENCE among the 40, round and round", "root(0, 0)");
        for (int n = 1; n <= 150; n++) {
            run.row("entry(0, 0, 2, " + (n - 1) + ", 0)");
            int since = n % 50;
            if (since == 0) {
                run.row(n == 100 ? "fence(0, 0)" : "fenceSpace(0)");
            }
            if (n > 50) {
                run.is(Math.min(since + 1, 41), "many(0, 0)");
            }
        }
    }

    private static void globalAmongTheForty(Check check) {
        Run run = Run.of(check, "what was ahead of them is not: of a GLOBAL PAGE", "root(0, 0)", "entry(0, 0, 2, 100, 8)", "entry(0, 0, 2, 200, 0)");
        changes(run, 0, 39).rows("many(3, 0) = 1", "permitted(3, 0, 100) = 1");
        changes(run, 39, 1).rows("many(3, 0) = 0", "permitted(3, 0, 100) = 0", "many(0, 0) = 1");
    }

    private static void whatCachesHave(Check check) {
        // A place of the cache outlives the memory of what it was read from.
        Run run = Run.of(check, "by ROOTS and ENTRIES, whatever the caches have", "root(0, 0)", "entry(0, 0, 2, 100, 7)", "current(0)",
                "access(0, 0) = 100", "entry(0, 0, 2, 200, 7)", "permitted(0, 0, 100) = 1");
        changes(run, 0, 40).rows("access(0, 0) = 100", "permitted(0, 0, 100) = 0", "permitted(0, 0, 200) = 1", "many(0, 0) = 1");
        // A page that was never read is permitted, too.
        Run.of(check, "by ROOTS and ENTRIES as they were, read or not", "root(0, 0)", "entry(0, 0, 2, 100, 0)", "current(0)", "entry(0, 0, 2, 200, 0)",
                "entry(0, 0, 2, 300, 0)", "access(0, 0) = 300", "many(0, 0) = 3", "root(3, 0)", "space(3, 1) = -1", "many(3, 0) = 3",
                "permitted(3, 0, 300) = 1", "permitted(3, 0, 200) = 1", "fence(0, 3) = 0", "many(3, 0) = 1", "many(0, 0) = 3");
    }

    private static void afterManyFences(Check check) {
        Run run = Run.of(check, "FENCES are not among the 40: the first of many is known still", "root(0, 0)", "root(1, 0)", "entry(0, 0, 2, 100, 0)",
                "entry(0, 0, 2, 200, 0)", "fence(0, 0)");
        for (int address = 1; address < 240; address++) {
            run.row("fence(" + address + ", 0)").row("fence(" + (511 - address) + ", 1)");
        }
        run.rows("many(0, 0) = 1", "many(1, 0) = 2", "many(0, 63) = 1", "entry(0, 0, 2, 300, 0)", "many(0, 0) = 2", "many(0, 63) = 2",
                "many(1, 0) = 3", "fence(0, 0)", "many(0, 0) = 1", "many(0, 63) = 2");
    }
}
