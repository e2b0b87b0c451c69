/** Boundary cases of promises 12 (fence), 13 (fenceSpace) and 14 (fenceAll), sentence by sentence. */
public final class FencesEdgesTest {
    /** Space 0: 3 a narrow page, 8 to 15 a global one, 448 to 511 a wide one; space 1 has the same tables, 2 its own. */
    private static final String[] TABLES = {"root(0, 0)", "root(1, 0)", "root(2, 6)", "entry(0, 0, 1, 1, 7)", "entry(1, 0, 1, 2, 7)",
        "entry(2, 3, 2, 100, 7)", "entry(1, 1, 2, 200, 15)", "entry(0, 7, 2, 300, 7)"};

    public static void main(String[] args) {
        Check check = new Check();
        nothingThere(check);
        refused(check);
        bothFull(check);
        theEdgesOfPages(check);
        theEdgesOfUpperPlaces(check);
        anotherTagStays(check);
        globalOnes(check);
        aSpaceWithoutATag(check);
        aSpaceWithoutARoot(check);
        ofASpace(check);
        walkersOfAnAddress(check);
        walkersOfASpace(check);
        onlyThoseThatAreGoing(check);
        placesAfterwards(check);
        ofEveryTag(check);
        nothingButPlacesAndWalkers(check);
        check.end();
    }

    private static void nothingThere(Check check) {
        Run.of(check, "how many PLACES of both caches went: both are empty", "fence(0, 0) = 0", "fence(511, 5) = 0", "fenceSpace(0) = 0",
                "fenceSpace(5) = 0", "fenceAll() = 0", "root(0, 0)", "current(0)", "fence(0, 0) = 0", "fenceSpace(0) = 0",
                "fenceAll() = 0", "walker(0, 0) = 0", "count(10) = 1");
    }

    private static void refused(Check check) {
        Run run = new Run(check, "NONE: others").rows(TABLES).rows("current(0)", "access(3, 0)", "access(448, 0)", "access(8, 0)",
                "begin(0, 3, 0, false) = 1");
        String[] others = {"fence(-1, 0)", "fence(512, 0)", "fence(3, -1)", "fence(3, 6)", "fence(-1, -1)", "fence(512, 6)",
            "fence(2147483647, 0)", "fence(-2147483648, 0)", "fence(3, 2147483647)", "fence(3, -2147483648)", "fenceSpace(-1)",
            "fenceSpace(6)", "fenceSpace(2147483647)", "fenceSpace(-2147483648)"};
        for (String call : others) {
            run.is(-1, call);
        }
        run.rows("count(1) = 3", "count(2) = 2", "count(13) = 1", "turn(0) = 2");
    }

    /** Six pages of tag 0 and six upper places of it, under addresses 0 to 7 and 64 a. */
    private static Run full(Check check, String sentence) {
        Run run = Run.of(check, sentence, "root(0, 0)", "root(1, 0)", "entry(1, 0, 1, 2, 7)", "current(0)");
        for (int i = 0; i < 6; i++) {
            run.row("entry(0, " + i + ", 1, " + (i == 0 ? 1 : 3) + ", 7)").row("entry(2, " + i + ", 2, " + (10 + i) + ", 7)");
        }
        for (int i = 0; i < 6; i++) {
            run.is(10 + i, "access(" + i + ", 0)");
        }
        for (int i = 1; i < 5; i++) {
            run.is(-4, "access(" + 64 * i + ", 0)");
        }
        return run.rows("count(1) = 6", "count(2) = 6");
    }

    private static void bothFull(Check check) {
        full(check, "how many PLACES of both caches went: both are full").rows("fenceAll() = 12", "count(1) = 0", "count(2) = 0",
                "fenceAll() = 0");
        full(check, "Of a SPACE: all of its TAG").rows("fenceSpace(1) = 0", "count(1) = 6", "fenceSpace(0) = 12", "count(1) = 0",
                "count(2) = 0", "fenceSpace(0) = 0");
        full(check, "of an ADDRESS in a SPACE").rows("fence(0, 1) = 0", "fence(5, 0) = 3", "fence(5, 0) = 0", "fence(6, 0) = 0",
                "count(1) = 5", "count(2) = 4", "fence(64, 0) = 1", "fence(319, 0) = 1", "fence(320, 0) = 0", "fence(0, 0) = 1");
    }

    private static void theEdgesOfPages(Check check) {
        int[][] edges = {{447, 0}, {448, 1}, {511, 1}};
        for (int[] edge : edges) {
            new Run(check, "PLACES that have the ADDRESS: of LEVEL 2").rows(TABLES).rows("current(0)", "access(480, 0) = 332")
                    .is(edge[1], "fence(" + edge[0] + ", 0)").is(1 - edge[1], "count(1)");
        }
        // The upper place of level 2 goes with every address from 0 to 63.
        int[][] ofLevelOne = {{7, 1}, {8, 2}, {15, 2}, {16, 1}};
        for (int[] edge : ofLevelOne) {
            new Run(check, "PLACES that have the ADDRESS: of LEVEL 1").rows(TABLES).rows("current(0)", "access(12, 0) = 204")
                    .is(edge[1], "fence(" + edge[0] + ", 0)").is(2 - edge[1], "count(1)");
        }
        int[][] ofLevelNought = {{2, 2}, {3, 3}, {4, 2}};
        for (int[] edge : ofLevelNought) {
            new Run(check, "PLACES that have the ADDRESS: of LEVEL 0").rows(TABLES).rows("current(0)", "access(3, 0) = 100")
                    .is(edge[1], "fence(" + edge[0] + ", 0)").is(3 - edge[1], "count(1)");
        }
    }

    private static void theEdgesOfUpperPlaces(Check check) {
        int[][] edges = {{63, 0}, {64, 1}, {71, 1}, {72, 2}, {79, 2}, {80, 1}, {127, 1}, {128, 0}};
        for (int[] edge : edges) {
            Run.of(check, "those of the UPPER that have the ADDRESS under them", "root(0, 0)", "entry(0, 1, 1, 1, 7)",
                    "entry(1, 1, 1, 2, 7)", "current(0)", "access(72, 0) = -4", "count(2) = 2")
                    .is(edge[1], "fence(" + edge[0] + ", 0)").is(2 - edge[1], "count(2)");
        }
    }

    private static void anotherTagStays(Check check) {
        new Run(check, "of its TAG: those of another stay").rows(TABLES).rows("current(0)", "access(3, 0)", "access(448, 0)", "current(1)",
                "access(3, 0)", "access(448, 0)", "count(1) = 4", "count(2) = 4", "fence(3, 1) = 3", "cached(0, 0) = 0",
                "cached(2, 0) = throws", "upper(0, 0) = 0", "upper(1, 0) = 0", "upper(2, 0) = throws", "upper(3, 0) = throws",
                "fence(448, 0) = 1", "cached(1, 0) = throws", "cached(3, 0) = 1", "fence(3, 2) = 0", "count(1) = 2");
    }

    private static void globalOnes(Check check) {
        new Run(check, "GLOBAL ones go that have the ADDRESS, of whichever TAG").rows(TABLES).rows("current(0)", "access(8, 0) = 200",
                "fence(7, 1) = 0", "fence(16, 1) = 0", "fence(15, 1) = 1", "count(1) = 0", "count(2) = 1");
        new Run(check, "Of a SPACE: all of its TAG but GLOBAL ones of the CACHE").rows(TABLES).rows("current(0)", "access(8, 0) = 200",
                "access(3, 0) = 100", "fenceSpace(0) = 3", "count(1) = 1", "count(2) = 0", "cached(0, 4) = 15", "access(15, 0) = 207",
                "count(6) = 1", "fenceAll() = 1", "count(1) = 0");
        // GLOBAL of an entry that leads on makes neither the upper place nor the page global.
        Run.of(check, "GLOBAL is of the PAGE", "root(0, 0)", "root(1, 0)", "entry(0, 0, 1, 1, 15)", "entry(1, 0, 2, 50, 7)", "current(0)",
                "access(0, 0) = 50", "cached(0, 4) = 7", "upper(0, 4) = 7", "fence(0, 1) = 0", "fenceSpace(0) = 2");
    }

    private static void aSpaceWithoutATag(Check check) {
        new Run(check, "of its TAG (if it has one)").rows(TABLES).rows("current(0)", "access(3, 0)", "access(8, 0)", "begin(0, 4, 0, false)",
                "begin(1, 12, 0, false)", "space(5, 1) = -1", "fenceSpace(5) = 0", "count(13) = 2", "fence(3, 5) = 0", "count(13) = 2",
                "fence(12, 5) = 1", "walker(0, 0) = 1", "walker(1, 0) = 4", "count(1) = 1", "count(2) = 2");
        new Run(check, "a SPACE whose TAG was recycled").rows(TABLES).rows("root(3, 0)", "current(0)", "current(1)", "current(2)",
                "current(3) = 0", "access(3, 0) = 100", "begin(0, 4, 0, false)", "fenceSpace(0) = 0", "fence(3, 0) = 0", "count(13) = 1",
                "fenceSpace(3) = 3", "walker(0, 0) = 4");
    }

    private static void aSpaceWithoutARoot(Check check) {
        new Run(check, "a SPACE without a ROOT may have a TAG still").rows(TABLES).rows("current(0)", "access(3, 0)", "access(448, 0)",
                "root(0, -1)", "fence(3, 0) = 3", "fenceSpace(0) = 1");
    }

    private static void ofASpace(Check check) {
        new Run(check, "Of a SPACE: whether it is CURRENT or not").rows(TABLES).rows("current(0)", "access(3, 0)", "current(1)", "access(3, 0)",
                "fenceSpace(0) = 3", "cached(1, 0) = 1", "fenceSpace(1) = 3", "count(1) = 0");
    }

    private static void walkersOfAnAddress(Check check) {
        new Run(check, "walkers with its TAG or with that ADDRESS").rows(TABLES).rows("current(0)", "begin(0, 3, 0, false)",
                "begin(1, 511, 0, true)", "current(1)", "begin(2, 3, 0, false)", "begin(3, 4, 0, false)", "fence(3, 0) = 0",
                "walker(0, 0) = 4", "walker(1, 0) = 4", "walker(2, 0) = 4", "walker(3, 0) = 1", "count(13) = 1");
        // The page under which an address lies is not asked for: the walker's own address is.
        new Run(check, "with that ADDRESS, not with one beside it").rows(TABLES).rows("current(0)", "begin(0, 0, 0, false)",
                "begin(1, 2, 0, false)", "begin(2, 510, 0, false)", "begin(3, 511, 0, false)", "fence(1, 5) = 0", "count(13) = 4",
                "fence(511, 5) = 0", "walker(2, 0) = 1", "walker(3, 0) = 4", "fence(0, 5) = 0", "walker(0, 0) = 4", "walker(1, 0) = 1");
    }

    private static void walkersOfASpace(Check check) {
        new Run(check, "Of a SPACE: walkers with its TAG").rows(TABLES).rows("current(0)", "begin(0, 3, 0, false)", "begin(3, 9, 0, true)",
                "current(1)", "begin(1, 3, 0, false)", "fenceSpace(2) = 0", "count(13) = 3", "fenceSpace(0) = 0", "walker(0, 0) = 4",
                "walker(1, 0) = 1", "walker(3, 0) = 4", "walker(2, 0) = 0", "fenceSpace(1) = 0", "walker(1, 0) = 4", "walker(1, 5) = 1");
    }

    private static void onlyThoseThatAreGoing(Check check) {
        String[] fences = {"fence(448, 0)", "fenceSpace(0)", "fenceAll()"};
        for (String fence : fences) {
            Run run = new Run(check, "one that is going is made ABORTED: " + fence).rows(TABLES).rows("current(0)", "begin(0, 448, 0, false)",
                    "turn(0) = 2", "begin(1, 64, 0, false)", "turn(1) = 3", "begin(2, 448, 0, true)").is(1, fence);
            run.rows("walker(0, 0) = 2", "walker(0, 3) = 300", "walker(1, 0) = 3", "walker(1, 3) = 2", "walker(2, 0) = 4",
                    "walker(2, 3) = -1", "walker(3, 0) = 0").is(0, fence).rows("walker(2, 0) = 4", "begin(2, 448, 0, true) = 1");
        }
    }

    private static void placesAfterwards(Check check) {
        full(check, "a PLACE that went is empty, and the lowest is taken").rows("fence(4, 0) = 3", "fence(1, 0) = 1", "cached(1, 0) = throws",
                "cached(4, 0) = throws", "access(4, 0) = 14", "cached(1, 3) = 14", "cached(4, 0) = throws", "access(1, 0) = 11",
                "cached(4, 3) = 11", "count(1) = 6");
    }

    private static void ofEveryTag(Check check) {
        for (int space = 0; space < 3; space++) {
            Run run = new Run(check, "of its TAG, whichever that is").rows(TABLES).rows("root(2, 0)");
            for (int other = 0; other < 3; other++) {
                run.is(other, "current(" + other + ")").is(100, "access(3, 0)").is(1, "begin(" + other + ", " + (16 + other) + ", 0, true)");
            }
            run.is(3, (space % 2 == 0 ? "fenceSpace(" : "fence(3, ") + space + ")").rows("count(1) = 2", "count(2) = 4");
            for (int other = 0; other < 3; other++) {
                run.is(other == space ? 4 : 1, "walker(" + other + ", 0)").is(other == space ? Run.THROWN : other, "cached(" + other + ", 0)");
            }
        }
    }

    /** Spaces 0, 1 and 2 have the tags and 2 is current; what a fence must leave as it is is asked behind each of them. */
    private static void nothingButPlacesAndWalkers(Check check) {
        String[] fences = {"fence(3, 0)", "fence(3, 1)", "fence(3, 2)", "fence(3, 5)", "fenceSpace(0)", "fenceSpace(1)", "fenceSpace(2)",
            "fenceSpace(5)", "fenceAll()"};
        for (String fence : fences) {
            Run run = new Run(check, "PLACES and walkers go by a FENCE, nothing else: " + fence).rows(TABLES).rows("current(0)", "access(3, 1)",
                    "current(1)", "access(448, 0)", "current(2)", "access(0, 0) = -4").row(fence);
            for (int space = 0; space < 3; space++) {
                run.is(space, "space(" + space + ", 1)").is(space == 2 ? 6 : 0, "space(" + space + ", 0)");
            }
            run.rows("count(0) = 2", "count(5) = 3", "count(6) = 0", "count(7) = 9", "count(9) = 1", "count(10) = 8", "count(11) = 4",
                    "count(12) = 1", "of(2, 3, 3) = 3", "of(0, 0, 1) = 1", "root(3, 0)", "root(4, 0)", "root(5, 0)");
            // The order in which the spaces ceased is as it was: tags are recycled from 0, then 1, then 2.
            run.rows("current(3) = 0", "space(0, 1) = -1", "current(4) = 1", "space(1, 1) = -1", "current(5) = 2", "space(2, 1) = -1");
        }
    }
}
