/** Boundary cases of promises 4 (root), 5 (current) and 23 (space), and of TAGS, sentence by sentence. */
public final class SpacesEdgesTest {
    private static final String[] SIX_ROOTS = {"root(0, 0)", "root(1, 1)", "root(2, 2)", "root(3, 3)", "root(4, 4)", "root(5, 5)"};

    public static void main(String[] args) {
        Check check = new Check();
        leastAndGreatestRoot(check);
        noneAtFirstAndAgain(check);
        rootRefused(check);
        everyRootIsItsOwn(check);
        currentNeedsARoot(check);
        currentRefused(check);
        currentWithoutItsRoot(check);
        theLeastTag(check);
        itKeepsItsOwn(check);
        becomingCurrentAgain(check);
        ceasedLongestAgo(check);
        roundAndRound(check);
        aTagWithoutARoot(check);
        allOfThatTagGoes(check);
        walkersOfThatTag(check);
        theTagIsAnothers(check);
        spaceTells(check);
        spaceRefused(check);
        check.end();
    }

    private static void leastAndGreatestRoot(Check check) {
        Run.of(check, "root: the least and the greatest SPACE and TABLE", "root(0, 0) = -1", "space(0, 0) = 0", "root(0, 11) = 0",
                "space(0, 0) = 11", "root(5, 11) = -1", "space(5, 0) = 11", "root(5, 0) = 11", "space(5, 0) = 0", "root(0, 0) = 11");
    }

    private static void noneAtFirstAndAgain(Check check) {
        Run.of(check, "root: (NONE: it has none): what it was (NONE: none)", "root(3, -1) = -1", "count(10) = 0", "root(3, 0) = -1",
                "count(10) = 1", "root(3, 0) = 0", "count(10) = 1", "root(3, -1) = 0", "count(10) = 2", "space(3, 0) = -1",
                "root(3, -1) = -1", "count(10) = 2", "root(3, 0) = -1", "count(10) = 3");
    }

    private static void rootRefused(Check check) {
        Run run = new Run(check, "root: -2, others").rows("root(0, 4) = -1", "root(5, 6) = -1");
        String[] others = {"0, -2", "0, 12", "5, -2", "5, 12", "-1, 0", "6, 0", "-1, -1", "6, -1", "6, 12", "-1, -2",
            "0, 2147483647", "0, -2147483648", "2147483647, 0", "-2147483648, 0"};
        for (String arguments : others) {
            run.row("root(" + arguments + ") = -2");
        }
        run.rows("space(0, 0) = 4", "space(5, 0) = 6", "count(10) = 2");
    }

    private static void everyRootIsItsOwn(Check check) {
        Run run = new Run(check, "SPACES 0 to 5, each with a ROOT");
        for (int space = 0; space < 6; space++) {
            run.is(-1, "root(" + space + ", " + (11 - space) + ")");
        }
        for (int space = 0; space < 6; space++) {
            run.is(11 - space, "space(" + space + ", 0)");
        }
    }

    private static void currentNeedsARoot(Check check) {
        Run run = new Run(check, "current: NONE, it has no ROOT");
        for (int space = 0; space < 6; space++) {
            run.is(-1, "current(" + space + ")").is(-1, "space(" + space + ", 1)").is(0, "space(" + space + ", 2)");
        }
        run.rows("count(0) = -1", "root(0, 0)", "current(0) = 0", "current(1) = -1", "count(0) = 0", "space(0, 2) = 1",
                "root(1, 0)", "root(1, -1)", "current(1) = -1", "space(1, 1) = -1", "count(0) = 0", "root(1, 11)", "current(1) = 1");
    }

    private static void currentRefused(Check check) {
        new Run(check, "current: NONE, others").rows(SIX_ROOTS).rows("current(-1) = -1", "current(6) = -1", "count(0) = -1",
                "current(5) = 0", "current(-1) = -1", "current(6) = -1", "current(2147483647) = -1", "current(-2147483648) = -1",
                "count(0) = 5", "space(5, 2) = 1", "current(0) = 1");
        // A refused call lets none cease: 0 ceased first, and it is 0 that loses its tag.
        new Run(check, "a refused current() is no ceasing").rows(SIX_ROOTS).rows("current(0) = 0", "current(1) = 1", "current(6) = -1",
                "root(5, -1)", "current(5) = -1", "current(2) = 2", "current(-1) = -1", "current(5) = -1", "current(3) = 0",
                "space(0, 1) = -1", "space(1, 1) = 1");
    }

    private static void currentWithoutItsRoot(Check check) {
        Run.of(check, "the CURRENT SPACE has lost its ROOT", "root(0, 0)", "entry(0, 0, 2, 5, 0)", "current(0) = 0", "root(0, -1) = 0",
                "count(0) = 0", "space(0, 0) = -1", "space(0, 2) = 1", "space(0, 1) = 0", "current(0) = -1", "count(0) = 0", "space(0, 1) = 0",
                "access(0, 0) = -3", "root(0, 0) = -1", "access(0, 0) = 5", "current(0) = 0");
    }

    private static void theLeastTag(Check check) {
        new Run(check, "if it has none, it gets the least that no SPACE has").rows(SIX_ROOTS).rows("space(5, 1) = -1",
                "current(5) = 0", "space(5, 1) = 0", "current(3) = 1", "space(3, 1) = 1", "current(4) = 2", "space(4, 1) = 2",
                "space(0, 1) = -1", "space(5, 1) = 0", "space(3, 1) = 1");
    }

    private static void itKeepsItsOwn(Check check) {
        new Run(check, "as it becomes CURRENT it keeps its own").rows(SIX_ROOTS).rows("current(2) = 0", "current(1) = 1",
                "current(0) = 2", "current(2) = 0", "current(0) = 2", "current(1) = 1", "root(1, 7) = 1", "current(1) = 1",
                "current(2) = 0", "root(1, -1) = 7", "root(1, 9) = -1", "current(1) = 1", "current(0) = 2");
    }

    private static void becomingCurrentAgain(Check check) {
        new Run(check, "the CURRENT one becomes CURRENT: it did not cease").rows(SIX_ROOTS).rows("current(0) = 0", "current(0) = 0",
                "current(1) = 1", "current(1) = 1", "current(2) = 2", "current(0) = 0", "current(0) = 0", "current(0) = 0",
                "current(3) = 1", "space(1, 1) = -1", "current(4) = 2", "space(2, 1) = -1", "current(5) = 0", "space(0, 1) = -1");
    }

    private static void ceasedLongestAgo(Check check) {
        // Tags 0, 1, 2 are those of spaces 0, 1, 2; the order is that in which they ceased last, not in which they came first.
        new Run(check, "that of the SPACE that ceased to be CURRENT longest ago: 1, 2, 0").rows(SIX_ROOTS).rows("current(0)",
                "current(1)", "current(2)", "current(0)", "current(3) = 1", "space(0, 1) = 0", "space(1, 1) = -1", "space(2, 1) = 2");
        new Run(check, "that of the SPACE that ceased to be CURRENT longest ago: 2, 0, 1").rows(SIX_ROOTS).rows("current(0)",
                "current(1)", "current(2)", "current(0)", "current(1)", "current(3) = 2", "space(2, 1) = -1", "current(4) = 0",
                "space(0, 1) = -1", "current(5) = 1", "space(1, 1) = -1");
        new Run(check, "the one that was CURRENT just now keeps its TAG").rows(SIX_ROOTS).rows("current(0)", "current(1)", "current(2)",
                "current(3) = 0", "space(2, 1) = 2", "current(2) = 2", "current(3) = 0", "current(1) = 1", "current(0) = 2",
                "space(2, 1) = -1", "space(3, 1) = 0");
        new Run(check, "one without a TAG that ceased longer ago has none to give").rows(SIX_ROOTS).rows("current(0)", "current(1)",
                "current(2)", "current(3) = 0", "current(4) = 1", "current(5) = 2", "space(3, 1) = 0", "current(0) = 0",
                "space(3, 1) = -1", "current(1) = 1", "space(4, 1) = -1");
        // Between ceasing and losing its tag, space 0 is told roots, and others have accesses and walkers.
        new Run(check, "to cease is to be CURRENT no longer, and no other call").rows(SIX_ROOTS).rows("current(0)", "access(0, 0)",
                "begin(0, 0, 0, false)", "current(1)", "current(2)", "root(0, 7)", "root(0, -1)", "root(0, 0)", "entry(0, 0, 2, 5, 15)", "turn(0) = 2",
                "fenceSpace(0) = 0", "fence(0, 0) = 1", "space(0, 1) = 0", "way(0, 0, 0) = 5", "current(3) = 0", "space(0, 1) = -1");
    }

    private static void roundAndRound(Check check) {
        Run run = new Run(check, "TAGS 0 to 2 are recycled round and round").rows(SIX_ROOTS);
        for (int n = 0; n < 100; n++) {
            run.is(n % 3, "current(" + n % 6 + ")").is(n % 3, "space(" + n % 6 + ", 1)");
            if (n >= 3) {
                run.is(-1, "space(" + (n - 3) % 6 + ", 1)").is((n - 1) % 3, "space(" + (n - 1) % 6 + ", 1)");
            }
        }
    }

    private static void aTagWithoutARoot(Check check) {
        new Run(check, "a SPACE without a ROOT has its TAG until that is recycled").rows(SIX_ROOTS).rows("current(0) = 0", "current(1) = 1",
                "root(0, -1) = 0", "space(0, 1) = 0", "current(2) = 2", "space(0, 1) = 0", "current(3) = 0", "space(0, 1) = -1",
                "current(0) = -1");
        new Run(check, "a SPACE without a ROOT loses its TAG in its turn").rows(SIX_ROOTS).rows("current(5) = 0", "current(1) = 1", "current(2) = 2",
                "root(5, -1)", "current(3) = 0", "space(5, 1) = -1", "space(1, 1) = 1", "root(2, -1)", "current(4) = 1", "space(2, 1) = 2",
                "current(0) = 2", "space(2, 1) = -1", "space(3, 1) = 0");
    }

    private static final String[] THREE_TAGS = {"root(0, 0)", "root(1, 0)", "root(2, 0)", "root(3, 0)", "root(4, 0)", "root(5, 0)",
        "entry(0, 0, 1, 1, 7)", "entry(1, 0, 1, 2, 7)", "entry(2, 0, 2, 100, 7)", "entry(0, 7, 2, 300, 15)"};

    private static void allOfThatTagGoes(Check check) {
        new Run(check, "all of that TAG in both caches goes, GLOBAL ones, too").rows(THREE_TAGS).rows("current(0)", "access(0, 0) = 100",
                "access(448, 0) = 300", "current(1)", "access(0, 0) = 100", "access(511, 0) = 363", "current(2)", "access(0, 0) = 100",
                "count(1) = 4", "count(2) = 6", "cached(1, 0) = 0", "cached(1, 4) = 15",
                "current(3) = 0", "count(1) = 2", "count(2) = 4", "cached(0, 0) = throws", "cached(1, 0) = throws",
                "cached(2, 0) = 1", "cached(3, 0) = 2", "upper(0, 0) = throws", "upper(1, 0) = throws", "upper(2, 0) = 1",
                "upper(5, 0) = 2", "current(4) = 1", "count(1) = 1", "count(2) = 2", "current(5) = 2", "count(1) = 0", "count(2) = 0");
        new Run(check, "GLOBAL ones of other TAGS stay").rows(THREE_TAGS).rows("current(0)", "current(1)", "access(448, 0) = 300",
                "current(2)", "current(3) = 0", "count(1) = 1", "steps(449, 0) = 0", "access(449, 0) = 301", "count(6) = 1");
        new Run(check, "a TAG of its own or the least: nothing goes").rows(THREE_TAGS).rows("current(0)", "access(0, 0)", "access(448, 0)",
                "begin(0, 0, 0, false) = 1", "current(1)", "current(2)", "current(0)", "count(1) = 2", "count(2) = 2", "walker(0, 0) = 1");
        for (int space = 0; space < 6; space++) {
            new Run(check, "it keeps its own, and what is of it").rows(THREE_TAGS).is(0, "current(" + space + ")").rows("access(0, 0) = 100",
                    "access(448, 0) = 300", "begin(0, 0, 0, false) = 1").is(1, "current(" + (space + 1) % 6 + ")").is(0, "current(" + space + ")")
                    .is(0, "current(" + space + ")").rows("count(1) = 2", "count(2) = 2", "walker(0, 0) = 1", "steps(0, 0) = 0", "steps(511, 0) = 0");
        }
    }

    private static void walkersOfThatTag(Check check) {
        new Run(check, "walkers of that TAG are ABORTED, those that are going").rows(THREE_TAGS).rows("current(0)", "begin(0, 0, 0, false) = 1",
                "begin(1, 448, 0, false) = 1", "turn(1) = 2", "begin(2, 64, 0, false) = 1", "turn(2) = 3", "current(1)",
                "begin(3, 0, 0, true) = 1", "current(2)", "current(3) = 0", "walker(0, 0) = 4", "walker(0, 5) = 0", "walker(1, 0) = 2",
                "walker(1, 3) = 300", "walker(2, 0) = 3", "walker(2, 3) = 2", "walker(3, 0) = 1", "count(13) = 1", "turn(0) = -1",
                "turn(3) = 1", "current(4) = 1", "walker(3, 0) = 4", "turn(3) = -1", "count(13) = 0");
    }

    private static void theTagIsAnothers(Check check) {
        // The new owner of the tag finds nothing of the old one in the caches, and fences of the old one reach nothing.
        new Run(check, "which has none then").rows(THREE_TAGS).rows("entry(3, 0, 2, 500, 7)", "root(3, 3)", "current(0)", "access(0, 0) = 100",
                "current(1)", "current(2)", "current(3) = 0", "access(0, 0) = 500", "fenceSpace(0) = 0", "count(1) = 1",
                "fence(0, 0) = 0", "count(1) = 1", "cached(0, 7) = 0", "fence(0, 3) = 1", "count(1) = 0");
    }

    private static void spaceTells(Check check) {
        Run.of(check, "space, what 0: ROOT, 1: TAG (both NONE: none), 2: 1 CURRENT, 0 not", "space(0, 0) = -1", "space(0, 1) = -1",
                "space(0, 2) = 0", "root(0, 0)", "root(5, 11)", "space(0, 0) = 0", "space(0, 1) = -1", "space(0, 2) = 0",
                "current(5)", "space(5, 0) = 11", "space(5, 1) = 0", "space(5, 2) = 1", "space(0, 2) = 0", "current(0)",
                "space(0, 0) = 0", "space(0, 1) = 1", "space(0, 2) = 1", "space(5, 2) = 0", "space(5, 1) = 0");
    }

    private static void spaceRefused(Check check) {
        Run run = new Run(check, "space: NONE, others").rows("root(0, 0)", "root(5, 0)", "current(5)", "current(0)");
        String[] others = {"-1, 0", "-1, 1", "-1, 2", "6, 0", "6, 1", "6, 2", "0, -1", "0, 3", "5, -1", "5, 3", "-1, 3",
            "2147483647, 0", "-2147483648, 0", "0, 2147483647", "0, -2147483648"};
        for (String arguments : others) {
            run.row("space(" + arguments + ") = -1");
        }
        Run.of(check, "space: NONE, others; none is CURRENT", "space(-1, 2) = -1", "space(6, 2) = -1");
    }
}
