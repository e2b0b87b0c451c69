/** Promises 6 (access), 7 (would) and 8 (steps). */
public final class AccessTest {
    public static void main(String[] args) {
        Check check = new Check();
        refused(check);
        widths(check);
        faults(check);
        rightsOnTheWay(check);
        marksAndSteps(check);
        sameEntryTwice(check);
        dirtyAgain(check);
        severalThatFit(check);
        behindTheUpper(check);
        staleUpperWithoutRoot(check);
        nothingChanges(check);
        check.end();
    }

    /** access() and what was foretold of it, together. */
    private static void access(Check check, WalkHouse house, int address, int wants, int due, int steps) {
        check.is("would(" + address + ", " + wants + ")", due, house.would(address, wants));
        check.is("steps(" + address + ", " + wants + ")", steps, house.steps(address, wants));
        int before = house.count(7);
        check.is("access(" + address + ", " + wants + ")", due, house.access(address, wants));
        check.is("its steps", steps, house.count(7) - before);
    }

    private static void refused(Check check) {
        WalkHouse house = Check.chain();
        check.is("none is current", -1, house.access(0, 0));
        check.is("none is current", -1, house.would(0, 0));
        check.is("none is current", -1, house.steps(0, 0));
        house.current(0);
        int[][] others = {{-1, 0}, {512, 0}, {0, -1}, {0, 8}, {Integer.MIN_VALUE, 0}, {0, Integer.MAX_VALUE}};
        for (int[] o : others) {
            check.is("refused", -1, house.access(o[0], o[1]));
            check.is("refused", -1, house.would(o[0], o[1]));
            check.is("refused", -1, house.steps(o[0], o[1]));
        }
        check.is("accesses", 0, house.count(5));
        check.is("faults", 0, house.count(9));
    }

    private static void widths(Check check) {
        WalkHouse house = Check.chain();
        house.entry(0, 7, 2, 999, 7);
        house.entry(1, 7, 2, 200, 7);
        house.entry(2, 7, 2, 30, 7);
        house.current(0);
        access(check, house, 511, 0, 999 + 63, 2);
        access(check, house, 448, 0, 999, 0);
        access(check, house, 63, 0, 207, 4);
        access(check, house, 56, 0, 200, 0);
        access(check, house, 7, 0, 30, 4);
        check.cached(house, 0, 0, 2, 448, 999, 7, 0, 2, 0);
        check.cached(house, 1, 0, 1, 56, 200, 7, 0, 1, 0);
        check.cached(house, 2, 0, 0, 7, 30, 7, 0, 0, 0);
    }

    private static void faults(Check check) {
        WalkHouse house = Check.chain();
        house.entry(2, 1, 1, 3, 7);
        house.entry(2, 2, 2, 9, 0);
        house.current(0);
        access(check, house, 64, 0, -4, 1);
        access(check, house, 8, 0, -4, 3);
        access(check, house, 0, 0, -4, 3);
        access(check, house, 1, 7, -5, 1);
        access(check, house, 2, 4, -6, 1);
        check.is("marks of one that faulted", 0, house.of(2, 2, 3));
        check.is("accesses", 5, house.count(5));
        check.is("faults", 5, house.count(9));
        check.is("none came to the cache", 0, house.count(1));
        check.is("the upper ones did", 2, house.count(2));
        house.fenceAll();
        house.root(0, -1);
        access(check, house, 2, 0, -3, 0);
        check.is("accesses", 6, house.count(5));
        check.is("faults", 6, house.count(9));
    }

    private static void rightsOnTheWay(Check check) {
        for (int level = 2; level >= 0; level--) {
            WalkHouse house = new WalkHouse();
            house.root(0, 0);
            house.entry(0, 0, 1, 1, level == 2 ? 5 : 7);
            house.entry(1, 0, 1, 2, level == 1 ? 5 : 7);
            house.entry(2, 0, 2, 40, level == 0 ? 5 : 7);
            house.current(0);
            // The steps of the levels ahead are two each: reading, and setting the mark.
            access(check, house, 0, 2, -6, 2 * (2 - level) + 1);
            check.is("entries marked", 2 - level, house.count(11));
            check.is("came to the upper", 2 - level, house.count(2));
            // Of the levels ahead the latest is in the upper, so it begins at the one that lacks.
            access(check, house, 0, 5, 40, 2 * (level + 1));
            access(check, house, 0, 2, -6, 1);
        }
        // An upper place that lacks a right: the next entry is read, and seen for the other faults first.
        WalkHouse house = new WalkHouse();
        house.root(0, 0);
        house.entry(0, 0, 1, 1, 6);
        house.current(0);
        access(check, house, 0, 0, -4, 3);
        access(check, house, 0, 1, -4, 1);
        house.entry(1, 0, 2, 70, 15);
        access(check, house, 0, 1, -6, 1);
        check.is("not marked", 0, house.of(1, 0, 3));
        access(check, house, 0, 6, 70, 2);
        check.is("rights together, global of the page", 14, house.cached(0, 4));
        house.entry(0, 1, 1, 1, 15);
        access(check, house, 64, 0, 70, 3);
        house.entry(1, 1, 2, 80, 7);
        access(check, house, 72, 7, 80, 2);
        check.is("global of the page alone", 7, house.cached(2, 4));
    }

    private static void marksAndSteps(Check check) {
        WalkHouse house = Check.chain();
        house.entry(2, 0, 2, 100, 7);
        house.current(0);
        house.marks(1, 0, 1);
        access(check, house, 0, 1, 100, 5);
        check.is("marks of the top", 1, house.of(0, 0, 3));
        check.is("marks of the next", 1, house.of(1, 0, 3));
        check.is("marks of the page", 3, house.of(2, 0, 3));
        house.fenceAll();
        house.marks(2, 0, 2);
        access(check, house, 0, 0, 100, 4);
        check.is("dirty stays", 3, house.of(2, 0, 3));
        check.is("was dirty as it came", 1, house.cached(0, 5));
        house.fenceAll();
        access(check, house, 0, 1, 100, 3);
    }

    private static void sameEntryTwice(Check check) {
        WalkHouse house = new WalkHouse();
        house.root(0, 0);
        house.entry(0, 0, 1, 0, 7);
        house.current(0);
        access(check, house, 0, 0, -5, 4);
        house = new WalkHouse();
        house.root(0, 0);
        house.entry(0, 0, 1, 0, 7);
        house.entry(0, 1, 2, 33, 7);
        house.current(0);
        access(check, house, 1, 1, 33, 5);
    }

    private static void dirtyAgain(Check check) {
        WalkHouse house = Check.chain();
        house.entry(2, 0, 2, 100, 7);
        house.current(0);
        access(check, house, 0, 0, 100, 6);
        access(check, house, 0, 6, 100, 0);
        check.is("hits", 1, house.count(6));
        access(check, house, 0, 1, 100, 2);
        check.is("hits", 1, house.count(6));
        access(check, house, 0, 7, 100, 0);
        check.is("hits", 2, house.count(6));
        house.marks(2, 0, 0);
        access(check, house, 0, 1, 100, 0);
        check.is("a hit sets no mark", 0, house.of(2, 0, 3));
    }

    private static void severalThatFit(Check check) {
        WalkHouse house = Check.chain();
        house.entry(2, 3, 2, 100, 3);
        house.current(0);
        house.access(3, 1);
        house.entry(1, 0, 2, 200, 7);
        house.fenceSpace(5);
        // The upper place leads around the new wide page, and so the narrow one stays.
        check.is("narrow still", 100, house.access(3, 1));
        house.root(1, 1);
        house.entry(1, 0, 2, 300, 12);
        house.entry(3, 0, 2, 400, 12);
        house.root(2, 3);
        house.current(2);
        access(check, house, 3, 0, 403, 2);
        house.current(0);
        // Fit: the global one of tag 1, used latest, and the narrow one of tag 0.
        check.is("cached", 2, house.count(1));
        access(check, house, 3, 0, 403, 0);
        access(check, house, 3, 1, 100, 0);
        check.is("the global one went on the way to the next", 1, house.count(1));
        check.is("the hit stays", 100, house.cached(0, 3));
        access(check, house, 3, 4, -6, 1);
        check.is("all that fit went", 0, house.count(1));
    }

    private static void behindTheUpper(Check check) {
        WalkHouse house = Check.chain();
        house.entry(2, 0, 2, 100, 7);
        house.entry(2, 1, 2, 101, 7);
        house.entry(1, 1, 2, 200, 7);
        house.current(0);
        access(check, house, 0, 0, 100, 6);
        check.is("behind", 0, house.count(8));
        access(check, house, 1, 0, 101, 2);
        check.is("behind level 1", 1, house.count(8));
        check.upper(house, 1, 0, 1, 0, 2, 7, 0, 0);
        check.upper(house, 0, 0, 2, 0, 1, 7, 1, 0);
        access(check, house, 8, 0, 200, 2);
        check.is("behind level 2", 2, house.count(8));
        check.is("it is used", 0, house.upper(0, 5));
        access(check, house, 9, 0, 201, 0);
        check.is("a hit is no walk", 2, house.count(8));
        house.root(1, 0);
        house.current(1);
        access(check, house, 0, 0, 100, 3);
        check.is("another tag's places do not count", 2, house.count(8));
    }

    private static void staleUpperWithoutRoot(Check check) {
        WalkHouse house = Check.chain();
        house.entry(2, 0, 2, 100, 7);
        house.entry(2, 1, 2, 101, 7);
        house.current(0);
        house.access(0, 0);
        house.root(0, -1);
        access(check, house, 1, 0, 101, 2);
        access(check, house, 64, 0, -3, 0);
    }

    private static void nothingChanges(Check check) {
        WalkHouse house = Check.chain();
        house.entry(2, 0, 2, 100, 3);
        house.current(0);
        check.is("steps asked first", 6, house.steps(0, 1));
        check.is("steps of another", 1, house.steps(64, 1));
        check.is("would", 100, house.would(0, 1));
        for (int what = 1; what <= 9; what++) {
            check.is("count(" + what + ")", 0, house.count(what));
        }
        check.is("accessed", 0, house.count(11));
        check.is("dirty", 0, house.count(12));
        house.access(0, 0);
        house.access(64, 0);
        house.would(0, 4);
        house.steps(0, 1);
        check.is("cached stays", 1, house.count(1));
        check.is("order of the upper stays", 1, house.upper(0, 5));
        check.is("walks", 0, house.count(8));
        check.is("accesses", 2, house.count(5));
        house.entry(0, 2, 2, 300, 7);
        house.access(128, 0);
        house.would(0, 0);
        check.is("order of the cache stays", 1, house.cached(0, 6));
        house.access(0, 0);
        check.is("but an access uses", 0, house.cached(0, 6));
    }
}
