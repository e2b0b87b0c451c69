/** Promises 19 (permitted) and 20 (many). */
public final class PermittedTest {
    public static void main(String[] args) {
        Check check = new Check();
        refused(check);
        sinceTheFence(check);
        mixtures(check);
        roots(check);
        globals(check);
        onlyTheLatestForty(check);
        manyFences(check);
        check.end();
    }

    private static void refused(Check check) {
        WalkHouse house = Check.chain();
        house.entry(2, 0, 2, 100, 7);
        check.yes("permitted", house.permitted(0, 0, 100));
        check.no("another space", house.permitted(1, 0, 100));
        check.no("another address", house.permitted(0, 1, 100));
        check.no("refused", house.permitted(-1, 0, 100));
        check.no("refused", house.permitted(6, 0, 100));
        check.no("refused", house.permitted(0, -1, 100));
        check.no("refused", house.permitted(0, 512, 100));
        int[] frames = {-1, -3, -4, 99, 101, 1000, 1062, 1063, 1088, 5000, 100 + 1088, Integer.MAX_VALUE, Integer.MIN_VALUE};
        for (int frame : frames) {
            check.no("permitted(0, 0, " + frame + ")", house.permitted(0, 0, frame));
        }
        check.is("many", 1, house.many(0, 0));
        check.is("many", 0, house.many(0, 1));
        check.is("many", 0, house.many(5, 0));
        check.is("refused", -1, house.many(-1, 0));
        check.is("refused", -1, house.many(6, 0));
        check.is("refused", -1, house.many(0, -1));
        check.is("refused", -1, house.many(0, 512));
        house.entry(0, 7, 2, 999, 0);
        house.entry(0, 3, 2, 0, 0);
        check.yes("frame 0", house.permitted(0, 192, 0));
        check.is("frame 0 counts", 1, house.many(0, 192));
        check.yes("a frame behind the last page's", house.permitted(0, 511, 1062));
        check.is("many", 1, house.many(0, 511));
    }

    private static WalkHouse changed() {
        WalkHouse house = Check.chain();
        house.entry(2, 0, 2, 100, 7);
        house.entry(2, 0, 2, 101, 7);
        house.entry(2, 0, 0, 0, 0);
        house.entry(2, 0, 2, 102, 7);
        return house;
    }

    private static void sinceTheFence(Check check) {
        WalkHouse house = changed();
        check.is("all since the beginning", 3, house.many(0, 0));
        house.fence(1, 0);
        check.is("another address", 3, house.many(0, 0));
        house.fence(0, 1);
        house.fenceSpace(1);
        check.is("another space", 3, house.many(0, 0));
        house.fence(0, 0);
        check.is("the address", 1, house.many(0, 0));
        check.yes("what it is", house.permitted(0, 0, 102));
        check.no("what it was", house.permitted(0, 0, 101));
        house.entry(2, 0, 2, 103, 7);
        check.yes("what it was at the fence", house.permitted(0, 0, 102));
        check.yes("what it is", house.permitted(0, 0, 103));
        check.is("many", 2, house.many(0, 0));
        house.entry(2, 0, 2, 102, 7);
        check.is("the same again", 2, house.many(0, 0));
        house.fenceSpace(0);
        check.is("the space", 1, house.many(0, 0));
        house.entry(2, 0, 0, 0, 0);
        check.is("what it was at the fence", 1, house.many(0, 0));
        house.fenceAll();
        check.is("of all", 0, house.many(0, 0));
        check.is("changes are remembered all the same", 10, house.count(10));
    }

    private static void mixtures(Check check) {
        WalkHouse house = Check.chain();
        house.entry(2, 0, 2, 100, 7);
        house.entry(1, 0, 1, 3, 7);
        house.entry(2, 0, 2, 101, 7);
        house.entry(3, 0, 2, 200, 7);
        house.entry(1, 0, 2, 300, 7);
        // Through table 2 the page 101 was never there at one time.
        check.yes("never there at one time", house.permitted(0, 0, 101));
        check.yes("early", house.permitted(0, 0, 100));
        check.yes("between", house.permitted(0, 0, 200));
        check.yes("now", house.permitted(0, 0, 300));
        check.is("many", 4, house.many(0, 0));
        check.yes("with what is left", house.permitted(0, 5, 305));
        check.is("many", 1, house.many(0, 5));
        house.fenceSpace(0);
        house.entry(0, 0, 2, 400, 7);
        check.is("many", 2, house.many(0, 0));
        check.yes("with what is left of a wide one", house.permitted(0, 63, 463));
        check.is("the same entry as it was at two times", 2, twice().many(0, 0));
        house.root(1, 6);
        house.root(1, 7);
        house.entry(6, 0, 1, 8, 0);
        house.entry(7, 0, 2, 60, 0);
        house.entry(8, 0, 2, 90, 0);
        check.is("what one root leads to, another does not hide", 2, house.many(1, 0));
    }

    private static WalkHouse twice() {
        WalkHouse house = new WalkHouse();
        house.root(0, 0);
        house.entry(0, 0, 1, 0, 7);
        house.entry(0, 0, 2, 500, 7);
        house.entry(0, 0, 2, 501, 7);
        return house;
    }

    private static void roots(Check check) {
        WalkHouse house = new WalkHouse();
        house.entry(0, 0, 2, 100, 7);
        house.entry(1, 0, 2, 200, 7);
        house.entry(2, 0, 2, 300, 7);
        house.root(0, 0);
        house.root(0, 1);
        house.root(0, -1);
        check.is("old roots", 2, house.many(0, 0));
        house.fence(0, 0);
        check.is("none", 0, house.many(0, 0));
        check.is("at another address", 2, house.many(0, 1));
        house.root(0, 2);
        check.is("since the fence", 1, house.many(0, 0));
        check.yes("the new one", house.permitted(0, 63, 363));
        check.is("rights do not count", 3, house.many(0, 63));
    }

    private static void globals(Check check) {
        WalkHouse house = new WalkHouse();
        house.root(3, 4);
        house.entry(4, 0, 2, 100, 8);
        check.yes("global in any space", house.permitted(0, 9, 109));
        check.is("many", 1, house.many(0, 9));
        check.is("many of its own, once", 1, house.many(3, 9));
        house.entry(4, 0, 2, 100, 7);
        check.yes("as it was", house.permitted(0, 9, 109));
        house.fenceSpace(0);
        house.fence(9, 0);
        house.fenceSpace(3);
        house.fence(9, 3);
        check.yes("fences of less than all leave it", house.permitted(0, 9, 109));
        house.root(3, -1);
        check.yes("by an old root", house.permitted(5, 9, 109));
        house.fenceAll();
        check.no("a fence of all does not", house.permitted(0, 9, 109));
        check.no("nor there", house.permitted(3, 9, 109));
        house.root(3, 4);
        check.is("no more global: only there", 1, house.many(3, 9));
        check.is("no more global: not here", 0, house.many(0, 9));
        house.entry(4, 1, 1, 5, 15);
        house.entry(5, 0, 2, 700, 7);
        check.is("the page is to be global", 0, house.many(0, 64));
    }

    private static void onlyTheLatestForty(Check check) {
        WalkHouse house = new WalkHouse();
        house.root(0, 0);
        house.entry(0, 0, 2, 100, 7);
        house.entry(0, 0, 2, 200, 7);
        for (int n = 0; n < 37; n++) {
            house.entry(1, 0, 2, n, 0);
        }
        check.is("changes", 40, house.count(10));
        check.is("many", 2, house.many(0, 0));
        house.entry(1, 1, 2, 0, 0);
        house.entry(1, 2, 2, 0, 0);
        check.is("changes", 40, house.count(10));
        check.yes("the change from 100 to 200 is among the forty", house.permitted(0, 0, 100));
        house.entry(1, 2, 2, 0, 0);
        house.root(0, 0);
        house.marks(1, 2, 3);
        check.yes("what is told alike is no change", house.permitted(0, 0, 100));
        house.entry(1, 3, 2, 0, 0);
        check.no("now it is not", house.permitted(0, 0, 100));
        check.yes("what it is stays", house.permitted(0, 0, 200));
        house.root(0, 2);
        for (int n = 0; n < 39; n++) {
            house.root(1, n % 2);
        }
        check.yes("a root that was", house.permitted(0, 0, 200));
        house.root(1, -1);
        check.is("a root that is forgotten", 0, house.many(0, 0));
    }

    private static void manyFences(Check check) {
        WalkHouse house = new WalkHouse();
        house.root(0, 0);
        for (int i = 0; i < 8; i++) {
            house.entry(0, i, 2, 100, 0);
        }
        for (int i = 0; i < 8; i++) {
            house.entry(0, i, 2, 300, 0);
        }
        for (int address = 0; address < 400; address++) {
            house.fence(address, 0);
        }
        check.is("fenced first", 1, house.many(0, 0));
        check.is("fenced last", 1, house.many(0, 399));
        check.is("not fenced", 2, house.many(0, 400));
        house.entry(0, 0, 2, 500, 0);
        check.is("since", 2, house.many(0, 7));
        house.fence(7, 0);
        check.is("fenced again", 1, house.many(0, 7));
        check.is("another", 2, house.many(0, 8));
    }
}
