/** Promises 17 (cached) and 18 (upper). */
public final class CachesTest {
    public static void main(String[] args) {
        Check check = new Check();
        refused(check);
        placesByUse(check);
        upperPlacesByUse(check);
        theSameName(check);
        stalePages(check);
        staleUppers(check);
        check.end();
    }

    private static void refused(Check check) {
        WalkHouse house = Check.chain();
        house.entry(2, 0, 2, 100, 7);
        house.current(0);
        check.cachedThrows(house, 0, 0);
        check.upperThrows(house, 0, 0);
        house.access(0, 0);
        int[][] others = {{-1, 0}, {6, 0}, {1, 0}, {5, 0}, {0, -1}, {Integer.MIN_VALUE, 0}, {0, Integer.MAX_VALUE}};
        for (int[] o : others) {
            check.cachedThrows(house, o[0], o[1]);
        }
        check.cachedThrows(house, 0, 8);
        check.upperThrows(house, 0, 7);
        check.upperThrows(house, 0, -1);
        check.upperThrows(house, 2, 0);
        check.upperThrows(house, 6, 0);
        check.upperThrows(house, -1, 0);
        check.cached(house, 0, 0, 0, 0, 100, 7, 0, 0, 0);
        check.upper(house, 0, 0, 2, 0, 1, 7, 1, 0);
        check.upper(house, 1, 0, 1, 0, 2, 7, 0, 0);
        house.fenceAll();
        check.cachedThrows(house, 0, 0);
        check.upperThrows(house, 1, 0);
    }

    private static void placesByUse(Check check) {
        WalkHouse house = Check.chain();
        for (int i = 0; i < 8; i++) {
            house.entry(2, i, 2, 100 + i, 7);
        }
        house.current(0);
        for (int i = 0; i < 6; i++) {
            house.access(i, 0);
        }
        for (int i = 0; i < 6; i++) {
            check.is("used later", 5 - i, house.cached(i, 6));
        }
        house.access(0, 0);
        house.access(6, 0);
        check.is("that used longest ago gives way", 106, house.cached(1, 3));
        check.is("used later", 0, house.cached(1, 6));
        check.is("used later", 1, house.cached(0, 6));
        check.is("used later", 5, house.cached(2, 6));
        house.fence(4, 5);
        house.fence(5, 0);
        house.fence(3, 0);
        check.cachedThrows(house, 3, 0);
        check.cachedThrows(house, 5, 0);
        check.is("only those that are there count", 3, house.cached(2, 6));
        house.access(7, 0);
        check.is("the lowest empty place", 107, house.cached(3, 3));
        house.access(1, 0);
        check.is("the next empty place", 101, house.cached(5, 3));
    }

    private static void upperPlacesByUse(Check check) {
        WalkHouse house = new WalkHouse();
        house.root(0, 0);
        for (int i = 0; i < 8; i++) {
            house.entry(0, i, 1, 1, 7);
        }
        house.entry(1, 0, 1, 2, 7);
        house.current(0);
        for (int i = 0; i < 6; i++) {
            house.access(64 * i + 8, 0);
        }
        check.is("full", 6, house.count(2));
        check.is("used later", 5, house.upper(0, 5));
        house.access(8, 0);
        check.is("used", 0, house.upper(0, 5));
        house.access(64 * 2, 0);
        check.upper(house, 1, 0, 1, 128, 2, 7, 0, 0);
        check.is("level 2 was used just ahead", 1, house.upper(2, 5));
        house.access(64 * 7, 0);
        check.upper(house, 3, 0, 2, 448, 1, 7, 1, 0);
        check.upper(house, 4, 0, 1, 448, 2, 7, 0, 0);
    }

    private static void theSameName(Check check) {
        WalkHouse house = Check.chain();
        house.entry(2, 0, 2, 100, 7);
        house.current(0);
        house.access(0, 0);
        house.entry(2, 0, 2, 200, 6);
        house.begin(0, 0, 0, false);
        house.turn(0);
        check.is("one place", 1, house.count(1));
        check.cached(house, 0, 0, 0, 0, 200, 6, 0, 0, 0);
        house.root(1, 0);
        house.current(1);
        house.access(0, 0);
        check.is("another tag has its own", 2, house.count(1));
        check.is("upper", 4, house.count(2));
        house.entry(1, 0, 2, 300, 7);
        house.fence(8, 1);
        house.entry(0, 0, 1, 3, 7);
        house.entry(3, 0, 2, 400, 7);
        house.fence(1, 1);
        house.access(1, 0);
        check.is("another level has its own", 3, house.count(1));
        check.cached(house, 2, 1, 1, 0, 400, 7, 0, 0, 0);
    }

    private static WalkHouse stale(int table, int what, int target, int rights) {
        WalkHouse house = Check.chain();
        house.entry(2, 0, 2, 100, 7);
        house.current(0);
        house.access(0, 0);
        house.entry(table, 0, what, target, rights);
        return house;
    }

    private static void staleness(Check check, WalkHouse house, int page, int upper2, int upper1) {
        check.is("cached is stale", page, house.cached(0, 7));
        check.is("upper of level 2 is stale", upper2, house.upper(0, 6));
        check.is("upper of level 1 is stale", upper1, house.upper(1, 6));
        check.is("stale ones of the cache", page, house.count(3));
        check.is("stale ones of the upper", upper2 + upper1, house.count(4));
    }

    private static void stalePages(Check check) {
        staleness(check, stale(2, 2, 100, 7), 0, 0, 0);
        staleness(check, stale(2, 2, 101, 7), 1, 0, 0);
        staleness(check, stale(2, 2, 100, 3), 1, 0, 0);
        staleness(check, stale(2, 2, 100, 15), 1, 0, 0);
        staleness(check, stale(2, 0, 0, 0), 1, 0, 0);
        staleness(check, stale(2, 1, 3, 7), 1, 0, 0);
        staleness(check, stale(1, 2, 100, 7), 1, 0, 1);
        WalkHouse house = stale(2, 2, 100, 7);
        house.marks(2, 0, 0);
        staleness(check, house, 0, 0, 0);
        house.root(0, -1);
        staleness(check, house, 1, 1, 1);
        house.root(0, 0);
        staleness(check, house, 0, 0, 0);
        house.root(1, 5);
        house.current(1);
        staleness(check, house, 0, 0, 0);
    }

    private static void staleUppers(Check check) {
        staleness(check, stale(1, 1, 3, 7), 1, 0, 1);
        staleness(check, stale(1, 1, 2, 3), 1, 0, 1);
        staleness(check, stale(1, 1, 2, 15), 0, 0, 0);
        staleness(check, stale(1, 0, 0, 0), 1, 0, 1);
        staleness(check, stale(0, 1, 1, 6), 1, 1, 1);
        staleness(check, stale(0, 1, 3, 7), 1, 1, 1);
        staleness(check, stale(0, 2, 1, 7), 1, 1, 1);
        WalkHouse house = stale(0, 1, 4, 7);
        house.entry(4, 0, 1, 2, 7);
        staleness(check, house, 0, 1, 0);
    }
}
