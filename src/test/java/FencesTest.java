/** Promises 12 (fence), 13 (fenceSpace) and 14 (fenceAll). */
public final class FencesTest {
    public static void main(String[] args) {
        Check check = new Check();
        refused(check);
        ofAnAddress(check);
        globalsOfOthers(check);
        ofASpace(check);
        ofAll(check);
        withoutATag(check);
        walkersByTagOrAddress(check);
        check.end();
    }

    /** Spaces 0 and 1 with the same tables; 3 is narrow, 8 to 15 a global page, 64 to 127 a wide one. */
    private static WalkHouse filled() {
        WalkHouse house = Check.chain();
        house.root(1, 0);
        house.entry(2, 3, 2, 100, 7);
        house.entry(1, 1, 2, 200, 15);
        house.entry(0, 1, 2, 300, 7);
        house.current(0);
        house.access(3, 0);
        house.access(64, 0);
        house.current(1);
        house.access(3, 0);
        house.access(8, 0);
        return house;
    }

    private static void refused(Check check) {
        WalkHouse house = filled();
        check.is("refused", -1, house.fence(-1, 0));
        check.is("refused", -1, house.fence(512, 0));
        check.is("refused", -1, house.fence(3, -1));
        check.is("refused", -1, house.fence(3, 6));
        check.is("refused", -1, house.fenceSpace(-1));
        check.is("refused", -1, house.fenceSpace(6));
        check.is("cached", 4, house.count(1));
        check.is("upper", 4, house.count(2));
    }

    private static void ofAnAddress(Check check) {
        WalkHouse house = filled();
        check.is("narrow and both upper ones", 3, house.fence(3, 0));
        check.is("cached", 3, house.count(1));
        check.is("upper", 2, house.count(2));
        check.is("again", 0, house.fence(3, 0));
        check.is("wide", 1, house.fence(127, 0));
        check.is("behind the wide one", 0, house.fence(128, 0));
        house = filled();
        check.is("an address beside: the upper ones", 2, house.fence(4, 0));
        check.is("that of the level 2 alone", 2, house.fence(8, 1));
        check.is("upper", 1, house.count(2));
        check.is("its level", 1, house.upper(3, 1));
        check.is("its tag", 1, house.upper(3, 0));
    }

    private static void globalsOfOthers(Check check) {
        WalkHouse house = filled();
        check.is("a global one of tag 1 and the upper of tag 0", 2, house.fence(15, 0));
        check.is("cached", 3, house.count(1));
        check.is("upper", 3, house.count(2));
    }

    private static void ofASpace(Check check) {
        WalkHouse house = filled();
        check.is("all of it but the global one", 3, house.fenceSpace(1));
        check.is("cached", 3, house.count(1));
        check.is("the global one stays", 200, house.cached(3, 3));
        check.is("the others, too", 4, house.fenceSpace(0));
        check.is("cached", 1, house.count(1));
        check.is("upper", 0, house.count(2));
        check.is("the lowest empty place is taken", 100, house.access(3, 0));
        check.is("place 0", 100, house.cached(0, 3));
    }

    private static void ofAll(Check check) {
        WalkHouse house = filled();
        house.begin(0, 9, 0, false);
        house.begin(1, 300, 0, true);
        house.current(0);
        house.begin(2, 64, 0, false);
        house.turn(2);
        check.is("everything", 8, house.fenceAll());
        check.is("cached", 0, house.count(1));
        check.is("upper", 0, house.count(2));
        check.is("going", 0, house.count(13));
        check.is("aborted", 4, house.walker(0, 0));
        check.is("aborted", 4, house.walker(1, 0));
        check.is("done before", 2, house.walker(2, 0));
        check.is("idle", 0, house.walker(3, 0));
        check.is("again", 0, house.fenceAll());
    }

    private static void withoutATag(Check check) {
        WalkHouse house = filled();
        house.begin(0, 9, 0, false);
        house.begin(1, 3, 0, false);
        check.is("of a space without a tag", 0, house.fenceSpace(5));
        check.is("going", 2, house.count(13));
        check.is("the global one", 1, house.fence(9, 5));
        check.is("that address", 4, house.walker(0, 0));
        check.is("not that tag", 1, house.walker(1, 0));
        check.is("nothing there", 0, house.fence(4, 5));
        check.is("cached", 3, house.count(1));
    }

    private static void walkersByTagOrAddress(Check check) {
        WalkHouse house = filled();
        house.begin(0, 9, 0, false);
        house.begin(1, 3, 0, false);
        house.current(0);
        house.begin(2, 9, 0, false);
        house.begin(3, 12, 0, false);
        house.fence(9, 1);
        check.is("its tag and address", 4, house.walker(0, 0));
        check.is("its tag", 4, house.walker(1, 0));
        check.is("its address", 4, house.walker(2, 0));
        check.is("neither", 1, house.walker(3, 0));
        house.begin(0, 9, 0, false);
        house.current(1);
        house.begin(1, 9, 0, false);
        house.fenceSpace(0);
        check.is("its tag", 4, house.walker(0, 0));
        check.is("another tag", 1, house.walker(1, 0));
        check.is("its tag", 4, house.walker(3, 0));
    }
}
