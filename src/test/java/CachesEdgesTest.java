/** Boundary cases of promises 17 (cached) and 18 (upper), and of how PLACES come, are used and go, sentence by sentence. */
public final class CachesEdgesTest {
    public static void main(String[] args) {
        Check check = new Check();
        empty(check);
        others(check);
        fillingTheCache(check);
        fillingTheUpper(check);
        usedLongestAgo(check);
        usedLongestAgoWhateverItIs(check);
        usedLongestAgoOfTheUpper(check);
        oneOfTheSame(check);
        anotherTagLevelOrAddress(check);
        theLowestEmptyPlace(check);
        usedLater(check);
        whatAPlaceTells(check);
        asThePageWas(check);
        staleIsOfTheSpaceThatHasItsTag(check);
        staleWithoutRegardToMarks(check);
        staleByEveryPart(check);
        staleUppers(check);
        allAreStale(check);
        check.end();
    }

    private static void empty(Check check) {
        Run run = new Run(check, "NoSuchElementException: it is empty");
        for (int place = 0; place < 6; place++) {
            for (int what = 0; what < 8; what++) {
                run.is(Run.THROWN, "cached(" + place + ", " + what + ")").is(Run.THROWN, "upper(" + place + ", " + what + ")");
            }
        }
        sixPages(check, "NoSuchElementException: it is empty again").rows("fence(3, 0) = 3", "cached(3, 0) = throws", "cached(2, 0) = 0",
                "cached(4, 0) = 0", "upper(0, 0) = throws", "upper(1, 0) = throws", "fenceAll() = 5", "cached(0, 0) = throws",
                "cached(5, 7) = throws");
    }

    /** Addresses 0 to 7 are narrow pages of frames 10 to 17; the first six are in places 0 to 5. */
    private static Run sixPages(Check check, String sentence) {
        Run run = Run.of(check, sentence, "root(0, 0)", "root(1, 0)", "entry(0, 0, 1, 1, 7)", "entry(1, 0, 1, 2, 7)", "current(0)");
        for (int i = 0; i < 8; i++) {
            run.row("entry(2, " + i + ", 2, " + (10 + i) + ", 7)");
        }
        for (int i = 0; i < 6; i++) {
            run.is(i, "count(1)").is(10 + i, "access(" + i + ", 0)").is(10 + i, "cached(" + i + ", 3)");
        }
        return run.row("count(1) = 6");
    }

    /** The root's entries all lead to table 1, which is none; the first six are in the upper places 0 to 5. */
    private static Run sixUppers(Check check, String sentence) {
        Run run = Run.of(check, sentence, "root(0, 0)", "root(1, 0)", "current(0)");
        for (int i = 0; i < 8; i++) {
            run.row("entry(0, " + i + ", 1, 1, 7)");
        }
        for (int i = 0; i < 6; i++) {
            run.is(i, "count(2)").is(-4, "access(" + 64 * i + ", 0)").is(64 * i, "upper(" + i + ", 2)");
        }
        return run.row("count(2) = 6");
    }

    private static void others(Check check) {
        Run run = sixPages(check, "NoSuchElementException: others");
        run.rows("entry(0, 1, 1, 3, 7)", "entry(0, 2, 1, 3, 7)", "entry(0, 3, 1, 3, 7)", "entry(0, 4, 1, 3, 7)", "access(64, 0)",
                "access(128, 0)", "access(192, 0)", "access(256, 0)", "count(2) = 6");
        String[] others = {"-1, 0", "6, 0", "0, -1", "5, -1", "-1, -1", "6, 8", "2147483647, 0", "-2147483648, 0", "0, 2147483647",
            "0, -2147483648"};
        for (String arguments : others) {
            run.row("cached(" + arguments + ") = throws").row("upper(" + arguments + ") = throws");
        }
        run.rows("cached(0, 8) = throws", "cached(5, 8) = throws", "cached(0, 7) = 0", "cached(5, 7) = 0", "upper(0, 7) = throws",
                "upper(5, 7) = throws", "upper(0, 6) = 0", "upper(5, 6) = 0", "count(1) = 6");
    }

    private static void fillingTheCache(Check check) {
        sixPages(check, "else that used longest ago: the seventh of the CACHE").rows("access(6, 0) = 16", "count(1) = 6", "cached(0, 3) = 16",
                "cached(1, 3) = 11", "access(7, 0) = 17", "cached(1, 3) = 17", "cached(0, 3) = 16", "access(0, 0) = 10", "cached(2, 3) = 10",
                "count(6) = 0", "count(1) = 6");
    }

    private static void fillingTheUpper(Check check) {
        sixUppers(check, "else that used longest ago: the seventh of the UPPER").rows("access(384, 0) = -4", "count(2) = 6",
                "upper(0, 2) = 384", "upper(1, 2) = 64", "access(448, 0) = -4", "upper(1, 2) = 448", "upper(0, 2) = 384",
                "access(0, 0) = -4", "upper(2, 2) = 0", "count(8) = 0", "count(2) = 6");
    }

    private static void usedLongestAgo(Check check) {
        sixPages(check, "what comes or is used is the latest: of the CACHE").rows("access(0, 0) = 10", "access(2, 0) = 12", "access(6, 0) = 16",
                "cached(1, 3) = 16", "access(7, 0) = 17", "cached(3, 3) = 17", "access(4, 0) = 14", "access(1, 0) = 11", "cached(5, 3) = 11",
                "access(3, 0) = 13", "cached(0, 3) = 13", "count(6) = 3");
        Run.of(check, "what is used is the latest: a wide one, and one of another TAG", "root(0, 0)", "root(1, 1)", "entry(0, 0, 2, 10, 7)",
                "entry(0, 1, 2, 80, 15)", "entry(0, 2, 2, 300, 7)", "current(0)", "access(0, 0) = 10", "access(64, 0) = 80", "access(128, 0) = 300",
                "cached(0, 6) = 2", "access(63, 0) = 73", "cached(0, 6) = 0", "cached(1, 6) = 2", "current(1)", "access(127, 0) = 143", "cached(1, 6) = 0",
                "cached(0, 6) = 1", "cached(2, 6) = 2");
        sixPages(check, "would() and steps() are no use").rows("would(0, 0) = 10", "steps(0, 0) = 0", "access(6, 0) = 16", "cached(0, 3) = 16");
    }

    /** Whatever is in the place used longest ago: a global page, one of another tag, one that is wide, one that is stale. */
    private static void usedLongestAgoWhateverItIs(Check check) {
        sixPages(check, "that used longest ago: a GLOBAL one").rows("fenceAll() = 8", "entry(2, 1, 2, 11, 15)", "access(0, 0)", "access(1, 0)",
                "access(2, 0)", "access(3, 0)", "access(4, 0)", "access(5, 0)", "access(0, 0)", "cached(1, 4) = 15", "access(6, 0) = 16",
                "cached(1, 3) = 16", "cached(0, 3) = 10", "cached(2, 3) = 12");
        for (int first = 0; first < 3; first++) {
            Run run = sixPages(check, "that used longest ago: of whichever TAG").rows("root(2, 0)", "fenceAll() = 8", "current(1)", "current(2)");
            for (int i = 0; i < 6; i++) {
                run.is((first + i) % 3, "current(" + (first + i) % 3 + ")").is(10 + i, "access(" + i + ", 0)");
            }
            for (int i = 0; i < 6; i++) {
                run.is(5 - i, "cached(" + i + ", 6)").is((first + i) % 3, "cached(" + i + ", 0)");
            }
            run.rows("access(6, 0) = 16", "cached(0, 3) = 16", "access(7, 0) = 17", "cached(1, 3) = 17", "cached(2, 3) = 12");
        }
        sixPages(check, "that used longest ago, not one that is STALE").rows("entry(2, 3, 2, 900, 7)", "cached(3, 7) = 1", "access(6, 0) = 16",
                "cached(0, 3) = 16", "cached(3, 3) = 13");
        sixUppers(check, "that used longest ago of the UPPER, not one that is STALE").rows("entry(0, 3, 0, 0, 0)", "upper(3, 6) = 1",
                "access(384, 0) = -4", "upper(0, 2) = 384", "upper(3, 2) = 192");
        sixUppers(check, "that used longest ago of the UPPER, of whichever LEVEL").rows("entry(1, 0, 1, 2, 7)", "access(320, 0) = -4",
                "upper(0, 1) = 1", "upper(0, 2) = 320", "access(256, 0) = -4", "upper(1, 2) = 256", "access(384, 0) = -4", "upper(2, 2) = 384",
                "upper(3, 2) = 384", "upper(3, 1) = 1");
    }

    private static void usedLongestAgoOfTheUpper(Check check) {
        sixUppers(check, "what comes or is used is the latest: of the UPPER").rows("access(0, 0) = -4", "begin(0, 128, 0, true) = 1",
                "access(384, 0) = -4", "upper(1, 2) = 384", "access(448, 0) = -4", "upper(3, 2) = 448", "count(8) = 2", "would(256, 0) = -4",
                "steps(256, 0) = 1", "access(64, 0) = -4", "upper(4, 2) = 64");
    }

    private static void oneOfTheSame(Check check) {
        // Place 0 is empty, and yet what comes takes the place of the one of the same name.
        sixPages(check, "the place of one of the same TAG, LEVEL and first ADDRESS: of the CACHE").rows("fence(0, 0) = 3",
                "entry(2, 4, 2, 900, 15)", "begin(0, 4, 0, false) = 1", "turn(0) = 1", "turn(0) = 1", "turn(0) = 2", "cached(0, 0) = throws",
                "cached(4, 3) = 900", "cached(4, 4) = 15", "cached(4, 6) = 0", "count(1) = 5");
        // Both walkers began at the root ahead of the place that the first one brings.
        Run.of(check, "the place of one of the same TAG, LEVEL and first ADDRESS: of the UPPER", "root(0, 0)", "root(1, 0)", "entry(0, 0, 1, 1, 7)",
                "entry(0, 1, 1, 1, 7)", "current(1)", "access(64, 0) = -4", "current(0)", "begin(0, 0, 0, false)", "begin(1, 63, 0, false)",
                "turn(0) = 1", "upper(1, 2) = 0", "fenceSpace(1) = 1", "upper(0, 0) = throws", "entry(0, 0, 1, 3, 6)", "turn(1) = 1",
                "upper(0, 0) = throws", "upper(1, 3) = 3", "upper(1, 4) = 6", "count(2) = 1");
        sixPages(check, "one of the same, both full: no other goes").rows("entry(2, 0, 2, 10, 3)", "begin(0, 0, 0, false) = 1", "turn(0) = 2",
                "count(1) = 6", "cached(0, 4) = 3", "cached(0, 6) = 0", "cached(1, 6) = 5", "cached(1, 3) = 11");
    }

    private static void anotherTagLevelOrAddress(Check check) {
        Run.of(check, "another TAG has a PLACE of its own", "root(0, 0)", "root(1, 0)", "entry(0, 0, 2, 10, 7)", "current(0)", "access(0, 0)",
                "current(1)", "access(0, 0)", "count(1) = 2", "cached(0, 0) = 0", "cached(1, 0) = 1");
        // A walker brings the wide page around the narrow one, which stays where it is.
        Run.of(check, "another LEVEL has a PLACE of its own", "root(0, 0)", "entry(0, 0, 1, 1, 7)", "entry(1, 0, 1, 2, 7)", "entry(2, 0, 2, 10, 7)",
                "current(0)", "begin(0, 0, 0, false)", "begin(1, 0, 0, false)", "begin(2, 0, 0, false)", "turn(0)", "turn(1)", "turn(0)",
                "turn(0) = 2", "entry(1, 0, 2, 20, 7)", "turn(1) = 2", "entry(0, 0, 2, 30, 7)", "turn(2) = 2", "count(1) = 3",
                "cached(0, 1) = 0", "cached(1, 1) = 1", "cached(2, 1) = 2", "cached(0, 2) = 0", "cached(1, 2) = 0", "cached(2, 2) = 0",
                "cached(0, 7) = 1", "cached(1, 7) = 1", "cached(2, 7) = 0");
        Run.of(check, "another first ADDRESS has a PLACE of its own", "root(0, 0)", "entry(0, 0, 2, 10, 7)", "entry(0, 1, 2, 10, 7)", "current(0)",
                "access(63, 0) = 73", "access(64, 0) = 10", "count(1) = 2", "cached(0, 2) = 0", "cached(1, 2) = 64");
        Run.of(check, "a GLOBAL one takes the place of the one of the same TAG", "root(0, 0)", "root(1, 0)", "entry(0, 0, 2, 10, 15)", "current(0)",
                "access(0, 0)", "begin(0, 5, 1, false)", "turn(0) = 2", "count(1) = 1", "cached(0, 5) = 1", "current(1)", "begin(0, 5, 0, false)",
                "turn(0) = 2", "count(1) = 2", "cached(0, 0) = 0", "cached(1, 0) = 1", "cached(1, 4) = 15");
        // What comes takes one place; those that have the same address at another level, in either cache, stay.
        Run.of(check, "a PAGE comes to the CACHE, the UPPER stays", "root(0, 0)", "entry(0, 0, 1, 1, 7)", "entry(1, 0, 1, 2, 7)", "current(0)",
                "begin(0, 0, 0, false)", "begin(1, 0, 0, false)", "begin(2, 0, 0, false)", "turn(0) = 1", "turn(0) = 1", "turn(1) = 1", "count(2) = 2",
                "entry(1, 0, 2, 10, 7)", "turn(1) = 2", "count(2) = 2", "upper(1, 1) = 1", "entry(0, 0, 2, 80, 7)", "turn(2) = 2", "count(2) = 2",
                "upper(0, 1) = 2", "count(1) = 2");
        // A walker was begun at the root; the place of level 2 comes again behind that of level 1.
        Run.of(check, "one of LEVEL 2 comes to the UPPER, that of LEVEL 1 stays", "root(0, 0)", "entry(0, 0, 1, 1, 7)", "entry(1, 0, 1, 2, 7)",
                "current(0)", "begin(0, 0, 0, false)", "access(0, 0) = -4", "count(2) = 2", "turn(0) = 1", "count(2) = 2", "upper(1, 1) = 1",
                "upper(0, 5) = 0", "upper(1, 5) = 1", "steps(1, 0) = 1");
        Run.of(check, "one LEVEL of the UPPER is not the other", "root(0, 0)", "entry(0, 0, 1, 1, 7)", "entry(1, 0, 1, 2, 7)", "current(0)",
                "access(0, 0) = -4", "count(2) = 2", "upper(0, 1) = 2", "upper(1, 1) = 1", "upper(0, 2) = 0", "upper(1, 2) = 0");
    }

    private static void theLowestEmptyPlace(Check check) {
        sixPages(check, "else an empty PLACE, the lowest").rows("fence(5, 0) = 3", "fence(1, 0) = 1", "fence(3, 0) = 1", "access(7, 0) = 17",
                "cached(1, 3) = 17", "cached(3, 0) = throws", "access(6, 0) = 16", "cached(3, 3) = 16", "cached(5, 0) = throws",
                "access(5, 0) = 15", "cached(5, 3) = 15", "cached(0, 3) = 10");
        sixUppers(check, "else an empty PLACE, the lowest: of the UPPER").rows("fence(320, 0) = 1", "fence(64, 0) = 1", "access(384, 0) = -4",
                "upper(1, 2) = 384", "upper(5, 0) = throws", "access(448, 0) = -4", "upper(5, 2) = 448", "upper(0, 2) = 0");
    }

    private static void usedLater(Check check) {
        Run run = sixPages(check, "how many of the CACHE were used later");
        int[] order = {0, 1, 2, 3, 4, 5};
        ranks(run, "cached", 6, order);
        run.rows("access(3, 0)", "access(0, 0)");
        ranks(run, "cached", 6, 1, 2, 4, 5, 3, 0);
        run.rows("access(0, 0)");
        ranks(run, "cached", 6, 1, 2, 4, 5, 3, 0);
        run.rows("fence(5, 0) = 3", "cached(5, 6) = throws", "cached(0, 6) = 0", "cached(3, 6) = 1", "cached(4, 6) = 2", "cached(1, 6) = 4");
        run = sixUppers(check, "how many of the UPPER were used later");
        ranks(run, "upper", 5, order);
        run.rows("access(192, 0)", "access(0, 0)");
        ranks(run, "upper", 5, 1, 2, 4, 5, 3, 0);
        run.rows("fence(320, 0) = 1", "upper(5, 5) = throws", "upper(0, 5) = 0", "upper(3, 5) = 1", "upper(4, 5) = 2", "upper(1, 5) = 4");
    }

    /** Places in the order in which they were used, that used longest ago first. */
    private static void ranks(Run run, String call, int what, int... order) {
        for (int k = 0; k < order.length; k++) {
            run.is(order.length - 1 - k, call + "(" + order[k] + ", " + what + ")");
        }
    }

    private static void whatAPlaceTells(Check check) {
        Run.of(check, "a PLACE with the least of all", "root(0, 0)", "entry(0, 0, 1, 1, 0)", "entry(1, 0, 1, 0, 0)", "entry(0, 0, 1, 0, 0)",
                "entry(0, 1, 2, 0, 0)", "current(0)", "access(1, 0) = 0", "cached(0, 0) = 0", "cached(0, 1) = 0", "cached(0, 2) = 1",
                "cached(0, 3) = 0", "cached(0, 4) = 0", "cached(0, 5) = 0", "cached(0, 6) = 0", "cached(0, 7) = 0", "upper(0, 0) = 0",
                "upper(0, 1) = 2", "upper(0, 2) = 0", "upper(0, 3) = 0", "upper(0, 4) = 0", "upper(0, 5) = 1", "upper(0, 6) = 0",
                "upper(1, 1) = 1", "upper(1, 2) = 0", "upper(1, 3) = 0", "upper(1, 5) = 0");
        Run.of(check, "a PLACE with the greatest of all", "root(0, 11)", "root(1, 11)", "root(2, 11)", "entry(11, 7, 2, 999, 15)",
                "entry(11, 6, 1, 11, 15)", "current(0)", "current(1)", "current(2) = 2", "access(511, 7) = 1062", "access(447, 7) = 1006",
                "cached(0, 0) = 2", "cached(0, 1) = 2", "cached(0, 2) = 448", "cached(0, 3) = 999", "cached(0, 4) = 15", "cached(0, 5) = 1",
                "cached(0, 6) = 1", "cached(1, 1) = 1", "cached(1, 2) = 440", "cached(1, 3) = 999", "upper(0, 0) = 2", "upper(0, 1) = 2",
                "upper(0, 2) = 384", "upper(0, 3) = 11", "upper(0, 4) = 7", "upper(0, 5) = 0", "upper(0, 6) = 0");
    }

    private static void asThePageWas(Check check) {
        Run.of(check, "1 if the PAGE was DIRTY as it came: a PLACE taken anew", "root(0, 0)", "entry(0, 0, 2, 10, 15)", "entry(0, 1, 2, 80, 2)",
                "current(0)", "access(0, 1) = 10", "cached(0, 5) = 1", "fence(0, 0) = 1", "access(64, 0) = 80", "cached(0, 0) = 0", "cached(0, 2) = 64",
                "cached(0, 3) = 80", "cached(0, 4) = 2", "cached(0, 5) = 0");
        Run.of(check, "1 if the PAGE was DIRTY as it came: it comes again", "root(0, 0)", "entry(0, 0, 2, 10, 7)", "current(0)", "access(0, 1) = 10",
                "marks(0, 0, 0) = 3", "begin(0, 63, 0, false) = 1", "cached(0, 5) = 1", "turn(0) = 2", "cached(0, 5) = 0", "cached(0, 2) = 0",
                "count(1) = 1", "access(0, 1) = 10", "cached(0, 5) = 1");
        Run run = sixPages(check, "1 if the PAGE was DIRTY as it came: of one used longest ago");
        run.rows("fenceAll() = 8", "access(0, 1)", "access(1, 1)", "access(2, 1)", "access(3, 1)", "access(4, 1)", "access(5, 1)", "cached(0, 5) = 1",
                "access(6, 0) = 16", "cached(0, 3) = 16", "cached(0, 5) = 0", "access(7, 1) = 17", "cached(1, 3) = 17", "cached(1, 5) = 1");
    }

    private static void staleIsOfTheSpaceThatHasItsTag(Check check) {
        Run.of(check, "as the WAY is now in the SPACE that has its TAG, CURRENT or not", "root(0, 0)", "root(1, 5)", "entry(0, 0, 2, 10, 15)",
                "current(0)", "access(0, 0) = 10", "current(1)", "access(0, 0) = 10", "cached(0, 7) = 0", "way(1, 0, 0) = -4", "count(3) = 0",
                "entry(5, 0, 2, 10, 15)", "root(0, -1)", "cached(0, 7) = 1", "count(3) = 1", "root(0, 5)", "cached(0, 7) = 0");
        Run.of(check, "STALE in the UPPER: the SPACE has no ROOT, or another", "root(0, 0)", "entry(0, 0, 1, 1, 7)", "entry(1, 0, 1, 2, 7)",
                "entry(5, 0, 1, 1, 7)", "current(0)", "access(0, 0) = -4", "count(4) = 0", "root(0, -1)", "upper(0, 6) = 1", "upper(1, 6) = 1",
                "count(4) = 2", "root(0, 5)", "count(4) = 0", "root(0, 6)", "count(4) = 2");
    }

    private static void staleWithoutRegardToMarks(Check check) {
        Run run = Run.of(check, "without regard to marks", "root(0, 0)", "entry(0, 0, 1, 1, 7)", "entry(1, 0, 2, 10, 7)", "current(0)",
                "access(0, 1) = 10");
        for (int marks = 0; marks < 4; marks++) {
            run.row("marks(0, 0, " + marks + ")").row("marks(1, 0, " + marks + ")").is(0, "cached(0, 7)").is(0, "upper(0, 6)");
        }
        run.rows("entry(1, 0, 0, 0, 0)", "cached(0, 7) = 1", "entry(1, 0, 2, 10, 7)", "cached(0, 7) = 0");
    }

    /** Address 0 by three entries is in the cache as a page of frame 10 with rights 7; then one entry is told anew. */
    private static Run told(Check check, String sentence, String entry) {
        return Run.of(check, sentence, "root(0, 0)", "entry(0, 0, 1, 1, 7)", "entry(1, 0, 1, 2, 7)", "entry(2, 0, 2, 10, 7)",
                "entry(4, 0, 1, 2, 7)", "current(0)", "access(0, 0) = 10", "entry(" + entry + ")");
    }

    private static void staleByEveryPart(Check check) {
        String[] stale = {"2, 0, 2, 9, 7", "2, 0, 2, 11, 7", "2, 0, 2, 10, 6", "2, 0, 2, 10, 15", "2, 0, 0, 0, 0", "2, 0, 1, 2, 7",
            "1, 0, 2, 10, 7", "1, 0, 1, 2, 3", "1, 0, 1, 3, 7", "1, 0, 0, 0, 0", "0, 0, 2, 10, 7", "0, 0, 1, 1, 5", "0, 0, 0, 0, 0"};
        for (String entry : stale) {
            told(check, "STALE is a PLACE that is not as the WAY is now: " + entry, entry).rows("cached(0, 7) = 1", "count(3) = 1",
                    "access(0, 0) = 10");
        }
        String[] fresh = {"2, 0, 2, 10, 7", "2, 1, 2, 10, 7", "1, 0, 1, 2, 15", "0, 0, 1, 1, 15", "0, 0, 1, 4, 7"};
        for (String entry : fresh) {
            told(check, "not STALE: a PAGE of that LEVEL, FRAME, RIGHTS: " + entry, entry).rows("cached(0, 7) = 0", "count(3) = 0");
        }
    }

    private static void staleUppers(Check check) {
        String[][] stale = {{"2, 0, 0, 0, 0", "0", "0"}, {"1, 0, 1, 2, 15", "0", "0"}, {"1, 0, 1, 3, 7", "0", "1"}, {"1, 0, 1, 2, 3", "0", "1"},
            {"1, 0, 2, 2, 7", "0", "1"}, {"1, 0, 0, 0, 0", "0", "1"}, {"0, 0, 1, 1, 15", "0", "0"}, {"0, 0, 1, 1, 6", "1", "1"},
            {"0, 0, 1, 4, 7", "1", "0"}, {"0, 0, 1, 3, 7", "1", "1"}, {"0, 0, 2, 1, 7", "1", "1"}, {"0, 0, 0, 0, 0", "1", "1"}};
        for (String[] s : stale) {
            told(check, "STALE is one of the UPPER: " + s[0], s[0]).row("upper(0, 6) = " + s[1]).row("upper(1, 6) = " + s[2])
                    .is(Integer.parseInt(s[1]) + Integer.parseInt(s[2]), "count(4)");
        }
        // A right that an entry ahead lacks hides what the entry itself gained or lost.
        Run.of(check, "those RIGHTS together", "root(0, 0)", "entry(0, 0, 1, 1, 3)", "entry(1, 0, 1, 2, 7)", "current(0)", "access(0, 0) = -4",
                "entry(1, 0, 1, 2, 3)", "upper(1, 6) = 0", "entry(1, 0, 1, 2, 1)", "upper(1, 6) = 1", "entry(0, 0, 1, 1, 7)", "upper(0, 6) = 1",
                "entry(1, 0, 1, 2, 3)", "upper(1, 6) = 0");
    }

    private static void allAreStale(Check check) {
        sixPages(check, "all six of the CACHE are STALE").rows("count(3) = 0", "entry(2, 0, 0, 0, 0)", "count(3) = 1", "entry(1, 0, 0, 0, 0)",
                "count(3) = 6", "count(4) = 1", "root(0, -1)", "count(4) = 2", "fenceAll() = 8", "count(3) = 0", "count(4) = 0");
        sixUppers(check, "all six of the UPPER are STALE").rows("count(4) = 0", "entry(0, 5, 0, 0, 0)", "count(4) = 1", "root(0, 5)", "count(4) = 6");
    }
}
