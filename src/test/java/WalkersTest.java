/** Promises 9 (begin), 10 (turn) and 11 (walker). */
public final class WalkersTest {
    public static void main(String[] args) {
        Check check = new Check();
        refused(check);
        entryByEntry(check);
        faults(check);
        whileTablesChange(check);
        guesses(check);
        behindTheUpper(check);
        withItsOwnTag(check);
        begunAgain(check);
        check.end();
    }

    private static void walker(Check check, WalkHouse house, int walker, int... due) {
        for (int what = 0; what < due.length; what++) {
            check.is("walker(" + walker + ", " + what + ")", due[what], house.walker(walker, what));
        }
    }

    private static WalkHouse paged() {
        WalkHouse house = Check.chain();
        house.entry(2, 5, 2, 100, 7);
        house.current(0);
        return house;
    }

    private static void refused(Check check) {
        WalkHouse house = Check.chain();
        check.is("none is current", -1, house.begin(0, 0, 0, false));
        house.current(0);
        check.is("refused", -1, house.begin(-1, 0, 0, false));
        check.is("refused", -1, house.begin(4, 0, 0, false));
        check.is("refused", -1, house.begin(0, -1, 0, false));
        check.is("refused", -1, house.begin(0, 512, 0, false));
        check.is("refused", -1, house.begin(0, 0, -1, false));
        check.is("refused", -1, house.begin(0, 0, 8, true));
        check.is("still idle", 0, house.walker(0, 0));
        check.is("turn of an idle one", -1, house.turn(0));
        check.is("refused", -1, house.turn(-1));
        check.is("refused", -1, house.turn(4));
        check.is("refused", -1, house.walker(-1, 0));
        check.is("refused", -1, house.walker(4, 0));
        check.is("refused", -1, house.walker(0, -1));
        check.is("refused", -1, house.walker(0, 6));
        walker(check, house, 0, 0, -1, -1, -1, -1, -1);
        check.is("begun", 1, house.begin(0, 0, 0, false));
        check.is("refused", -1, house.walker(0, 6));
        check.is("refused", -1, house.walker(0, -1));
    }

    private static void entryByEntry(Check check) {
        WalkHouse house = paged();
        check.is("begun", 1, house.begin(3, 5, 1, false));
        walker(check, house, 3, 1, 5, 0, -1, 2, 0);
        check.is("it is going", -1, house.begin(3, 6, 0, true));
        check.is("turn", 1, house.turn(3));
        walker(check, house, 3, 1, 5, 2, -1, 1, 0);
        check.is("upper", 1, house.count(2));
        check.is("steps of all", 2, house.count(7));
        check.is("turn", 1, house.turn(3));
        walker(check, house, 3, 1, 5, 4, -1, 0, 0);
        check.is("turn", 2, house.turn(3));
        walker(check, house, 3, 2, 5, 6, 100, -1, 0);
        check.is("turn of one that is done", -1, house.turn(3));
        check.cached(house, 0, 0, 0, 5, 100, 7, 1, 0, 0);
        check.is("dirty", 1, house.count(12));
        check.is("steps of all", 6, house.count(7));
        check.is("no access", 0, house.count(5));
        house.entry(0, 1, 2, 600, 7);
        house.begin(1, 127, 0, false);
        check.is("a wide page", 2, house.turn(1));
        check.is("its frame with what is left", 663, house.walker(1, 3));
        check.is("first address", 64, house.cached(1, 2));
    }

    private static void faults(Check check) {
        WalkHouse house = paged();
        house.entry(2, 1, 1, 3, 7);
        house.entry(2, 2, 2, 50, 3);
        house.begin(0, 64, 0, false);
        check.is("turn", 3, house.turn(0));
        walker(check, house, 0, 3, 64, 1, 2, -1, 0);
        check.is("turn of one that faulted", -1, house.turn(0));
        house.begin(1, 1, 0, false);
        house.turn(1);
        house.turn(1);
        check.is("turn", 3, house.turn(1));
        walker(check, house, 1, 3, 1, 5, 3, -1, 0);
        house.begin(2, 2, 4, false);
        check.is("turn", 3, house.turn(2));
        walker(check, house, 2, 3, 2, 1, 4, -1, 0);
        check.is("no faults of accesses", 0, house.count(9));
        house.fenceAll();
        house.root(0, -1);
        check.is("no root", 3, house.begin(0, 9, 0, true));
        walker(check, house, 0, 3, 9, 0, 1, -1, 0);
        check.is("going", 0, house.count(13));
        check.is("turn", -1, house.turn(0));
    }

    private static void whileTablesChange(Check check) {
        WalkHouse house = paged();
        house.begin(0, 5, 0, false);
        house.root(0, 9);
        check.is("the root was read as it began", 1, house.turn(0));
        house.entry(0, 0, 0, 0, 0);
        house.entry(1, 0, 1, 4, 6);
        check.is("the entry as it is then", 1, house.turn(0));
        house.entry(4, 5, 2, 700, 15);
        check.is("done", 2, house.turn(0));
        check.is("the frame", 700, house.walker(0, 3));
        check.cached(house, 0, 0, 0, 5, 700, 14, 0, 0, 1);
        check.upper(house, 0, 0, 2, 0, 1, 7, 1, 1);
        check.upper(house, 1, 0, 1, 0, 4, 6, 0, 1);
        house.begin(1, 5, 0, false);
        house.marks(4, 5, 0);
        check.is("done", 2, house.turn(1));
        check.is("marked again", 2, house.walker(1, 2));
    }

    private static void guesses(Check check) {
        WalkHouse house = paged();
        house.begin(0, 5, 1, true);
        house.turn(0);
        house.turn(0);
        check.is("done", 2, house.turn(0));
        walker(check, house, 0, 2, 5, 3, 100, -1, 0);
        check.is("no marks", 0, house.count(11) + house.count(12));
        check.is("no places", 0, house.count(1) + house.count(2));
        house.marks(0, 0, 1);
        house.marks(2, 5, 1);
        house.begin(0, 5, 1, true);
        house.turn(0);
        house.turn(0);
        house.turn(0);
        check.is("upper: the one that was accessed", 1, house.count(2));
        check.is("upper: its level", 2, house.upper(0, 1));
        check.cached(house, 0, 0, 0, 5, 100, 7, 0, 0, 0);
        check.is("no mark is set", 2, house.count(11));
        check.is("none is dirty", 0, house.count(12));
        house.marks(2, 5, 2);
        house.fenceAll();
        house.begin(0, 5, 0, true);
        house.turn(0);
        house.turn(0);
        house.turn(0);
        check.is("dirty alone is not accessed", 0, house.count(1));
        house.begin(0, 6, 0, true);
        house.turn(0);
        check.is("a guess faults, too", 3, house.turn(0));
    }

    private static void behindTheUpper(Check check) {
        WalkHouse house = paged();
        house.access(5, 0);
        check.is("begun", 1, house.begin(0, 5, 0, false));
        check.is("without the cache: next level", 0, house.walker(0, 4));
        check.is("walks behind the upper", 1, house.count(8));
        check.is("hits", 0, house.count(6));
        house.access(15, 0);
        check.is("behind level 2", 2, house.count(8));
        check.is("used latest", 0, house.upper(0, 5));
        house.begin(1, 4, 0, true);
        check.is("begun: it is used", 0, house.upper(1, 5));
        check.is("walks behind the upper", 3, house.count(8));
        house.fence(4, 5);
        check.is("its own address alone", 4, house.walker(1, 0));
        check.is("turn", 2, house.turn(0));
        check.is("steps", 1, house.walker(0, 2));
        check.is("the place of the same name is taken", 1, house.count(1));
    }

    private static void withItsOwnTag(Check check) {
        WalkHouse house = paged();
        house.root(1, 6);
        house.begin(2, 5, 0, false);
        house.current(1);
        house.turn(2);
        house.turn(2);
        check.is("done", 2, house.turn(2));
        check.is("its tag", 0, house.walker(2, 5));
        check.is("its place's tag", 0, house.cached(0, 0));
        check.is("upper tag", 0, house.upper(1, 0));
        check.is("not for another space", -4, house.access(5, 0));
        house.current(0);
        check.is("a hit", 100, house.access(5, 0));
        check.is("hits", 1, house.count(6));
    }

    private static void begunAgain(Check check) {
        WalkHouse house = paged();
        house.begin(0, 64, 0, false);
        house.turn(0);
        check.is("one that faulted", 1, house.begin(0, 5, 0, false));
        walker(check, house, 0, 1, 5, 0, -1, 2, 0);
        house.fenceAll();
        walker(check, house, 0, 4, 5, 0, -1, -1, 0);
        check.is("one that was aborted", 1, house.begin(0, 6, 0, false));
        walker(check, house, 0, 1, 6, 0, -1, 2, 0);
        check.is("turn", 1, house.turn(0));
        house.begin(1, 5, 0, false);
        house.turn(1);
        check.is("done", 2, house.turn(1));
        check.is("one that is done", 1, house.begin(1, 5, 7, false));
        check.is("dirty now", 2, house.turn(1));
        check.is("its steps", 2, house.walker(1, 2));
    }
}
