/** Promises 4 (root), 5 (current) and 23 (space). */
public final class SpacesTest {
    public static void main(String[] args) {
        Check check = new Check();
        roots(check);
        tags(check);
        keptTags(check);
        becomingCurrentAgain(check);
        recycling(check);
        recycledGlobals(check);
        recyclingAbortsWalkers(check);
        check.end();
    }

    private static WalkHouse rooted() {
        WalkHouse house = new WalkHouse();
        for (int space = 0; space < 6; space++) {
            house.root(space, space);
        }
        return house;
    }

    private static void roots(Check check) {
        WalkHouse house = new WalkHouse();
        check.is("root", -1, house.root(5, 11));
        check.is("root", 11, house.root(5, 0));
        check.is("root again alike", 0, house.root(5, 0));
        check.is("changes", 2, house.count(10));
        check.is("space root", 0, house.space(5, 0));
        check.is("root none", 0, house.root(5, -1));
        check.is("space root", -1, house.space(5, 0));
        check.is("root none again", -1, house.root(5, -1));
        check.is("changes", 3, house.count(10));
        int[][] refused = {{-1, 0}, {6, 0}, {0, 12}, {0, -2}, {Integer.MAX_VALUE, 0}, {0, Integer.MIN_VALUE}};
        for (int[] r : refused) {
            check.is("root refused", -2, house.root(r[0], r[1]));
        }
        check.is("changes", 3, house.count(10));
        int[][] others = {{-1, 0}, {6, 0}, {0, -1}, {0, 3}, {6, 2}};
        for (int[] o : others) {
            check.is("space refused", -1, house.space(o[0], o[1]));
        }
    }

    private static void tags(Check check) {
        WalkHouse house = rooted();
        check.is("current", -1, house.count(0));
        check.is("refused", -1, house.current(6));
        check.is("refused", -1, house.current(-1));
        house.root(5, -1);
        check.is("no root", -1, house.current(5));
        check.is("current", -1, house.count(0));
        check.is("first", 0, house.current(4));
        check.is("refused", -1, house.current(5));
        check.is("still current", 4, house.count(0));
        check.is("second", 1, house.current(2));
        check.is("third", 2, house.current(3));
        check.is("is current", 1, house.space(3, 2));
        check.is("is not", 0, house.space(2, 2));
        check.is("fourth takes that of 4", 0, house.current(0));
        check.is("4 has none", -1, house.space(4, 1));
        check.is("2 keeps its own", 1, house.space(2, 1));
        check.is("3 keeps its own", 2, house.space(3, 1));
        check.is("fifth takes that of 2", 1, house.current(1));
        check.is("2 has none", -1, house.space(2, 1));
    }

    private static void keptTags(Check check) {
        WalkHouse house = rooted();
        house.current(0);
        house.current(1);
        house.current(2);
        check.is("0 keeps", 0, house.current(0));
        // Ceased in the order 1, 2; then 0: the one of 1 is the oldest.
        check.is("3 takes that of 1", 1, house.current(3));
        check.is("1 has none", -1, house.space(1, 1));
        check.is("4 takes that of 2", 2, house.current(4));
        check.is("5 takes that of 0", 0, house.current(5));
        check.is("a tag stays without a root", -1, house.root(4, -1) == 4 ? -1 : 0);
        check.is("tag of 4", 2, house.space(4, 1));
    }

    private static void becomingCurrentAgain(Check check) {
        WalkHouse house = rooted();
        house.current(0);
        house.current(1);
        house.current(2);
        house.current(0);
        house.current(0);
        check.is("2 again", 2, house.current(2));
        // Ceased: 1 (when 2 came), 2 (when 0 came), 0 (just now).
        check.is("3 takes that of 1", 1, house.current(3));
        check.is("4 takes that of 0", 0, house.current(4));
        house.root(4, -1);
        check.is("the current one without a root is refused", -1, house.current(4));
        check.is("it is current all the same", 4, house.count(0));
    }

    private static void recycling(Check check) {
        WalkHouse house = Check.chain();
        house.entry(2, 0, 2, 100, 7);
        house.root(1, 3);
        house.root(2, 4);
        house.root(3, 5);
        house.entry(3, 0, 2, 300, 7);
        house.current(0);
        house.access(0, 0);
        house.current(1);
        house.access(5, 0);
        house.current(2);
        check.is("cached", 2, house.count(1));
        check.is("upper", 2, house.count(2));
        check.is("3 takes the tag of 0", 0, house.current(3));
        check.is("cached", 1, house.count(1));
        check.is("upper", 0, house.count(2));
        check.is("that of 1 stays", 300, house.cached(1, 3));
    }

    private static void recycledGlobals(Check check) {
        WalkHouse house = new WalkHouse();
        for (int space = 0; space < 4; space++) {
            house.root(space, space);
        }
        house.entry(0, 1, 2, 500, 8);
        house.current(0);
        house.access(64, 0);
        house.current(1);
        check.is("a global one hits in another space", 501, house.access(65, 0));
        house.current(2);
        house.current(3);
        check.is("it is gone with its tag", 0, house.count(1));
        check.is("access", -4, house.access(65, 0));
    }

    private static void recyclingAbortsWalkers(Check check) {
        WalkHouse house = Check.chain();
        for (int space = 1; space < 4; space++) {
            house.root(space, 0);
        }
        house.entry(2, 0, 2, 100, 7);
        house.current(0);
        house.begin(0, 0, 0, false);
        house.begin(3, 0, 0, false);
        house.turn(3);
        house.turn(3);
        check.is("done", 2, house.turn(3));
        house.current(1);
        house.begin(1, 0, 0, false);
        house.current(2);
        check.is("all going", 2, house.count(13));
        house.current(3);
        check.is("aborted", 4, house.walker(0, 0));
        check.is("its tag is told still", 0, house.walker(0, 5));
        check.is("going", 1, house.walker(1, 0));
        check.is("done stays done", 2, house.walker(3, 0));
    }
}
