/** Promises 2 (entry), 3 (marks) and 16 (of). */
public final class TablesTest {
    public static void main(String[] args) {
        Check check = new Check();
        entries(check);
        refusedEntries(check);
        marks(check);
        marksGoWithTheEntry(check);
        toldAlike(check);
        check.end();
    }

    private static void entries(Check check) {
        WalkHouse house = new WalkHouse();
        check.is("entry to a table", 0, house.entry(11, 7, 1, 11, 15));
        check.is("of kind", 1, house.of(11, 7, 0));
        check.is("of target", 11, house.of(11, 7, 1));
        check.is("of rights", 15, house.of(11, 7, 2));
        check.is("of marks", 0, house.of(11, 7, 3));
        check.is("entry of a page", 1, house.entry(11, 7, 2, 999, 0));
        check.is("of kind", 2, house.of(11, 7, 0));
        check.is("of frame", 999, house.of(11, 7, 1));
        check.is("of rights", 0, house.of(11, 7, 2));
        check.is("entry of none, whatever else", 2, house.entry(11, 7, 0, -5, 99));
        check.is("of kind", 0, house.of(11, 7, 0));
        for (int what = 1; what <= 3; what++) {
            check.is("of none, " + what, -1, house.of(11, 7, what));
        }
        check.is("page 0 right 0", 0, house.entry(0, 0, 2, 0, 0));
        check.is("of kind", 2, house.of(0, 0, 0));
        check.is("its frame", 0, house.of(0, 0, 1));
        check.is("table 0", 2, house.entry(0, 0, 1, 0, 0));
        check.is("its target", 0, house.of(0, 0, 1));
        check.is("others are none", 0, house.of(0, 1, 0));
    }

    private static void refusedEntries(Check check) {
        WalkHouse house = new WalkHouse();
        house.entry(3, 4, 2, 77, 5);
        int[][] refused = {{-1, 4, 1, 0, 0}, {12, 4, 1, 0, 0}, {3, -1, 1, 0, 0}, {3, 8, 1, 0, 0}, {3, 4, -1, 0, 0},
            {3, 4, 3, 0, 0}, {3, 4, 1, -1, 0}, {3, 4, 1, 12, 0}, {3, 4, 2, -1, 0}, {3, 4, 2, 1000, 0},
            {3, 4, 1, 0, -1}, {3, 4, 1, 0, 16}, {3, 4, 2, 0, -1}, {3, 4, 2, 0, 16}, {12, 0, 0, 0, 0}, {0, 8, 0, 0, 0},
            {Integer.MIN_VALUE, 0, 0, 0, 0}, {Integer.MAX_VALUE, 0, 0, 0, 0}, {0, Integer.MIN_VALUE, 0, 0, 0},
            {3, 4, 2, Integer.MAX_VALUE, 0}, {3, 4, 2, 0, Integer.MIN_VALUE}};
        for (int[] r : refused) {
            check.is("entry refused", -1, house.entry(r[0], r[1], r[2], r[3], r[4]));
        }
        check.is("nothing changed: changes", 1, house.count(10));
        check.is("nothing changed: frame", 77, house.of(3, 4, 1));
        int[][] others = {{-1, 0, 0}, {12, 0, 0}, {0, -1, 0}, {0, 8, 0}, {3, 4, -1}, {3, 4, 4}, {3, 4, Integer.MAX_VALUE}};
        for (int[] o : others) {
            check.is("of refused", -1, house.of(o[0], o[1], o[2]));
        }
    }

    private static void marks(Check check) {
        WalkHouse house = new WalkHouse();
        check.is("marks of none", -1, house.marks(2, 2, 1));
        house.entry(2, 2, 2, 10, 1);
        check.is("marks", 0, house.marks(2, 2, 3));
        check.is("marks", 3, house.marks(2, 2, 2));
        check.is("of marks", 2, house.of(2, 2, 3));
        check.is("marks", 2, house.marks(2, 2, 1));
        check.is("marks", 1, house.marks(2, 2, 0));
        house.entry(4, 0, 1, 1, 0);
        check.is("marks of one that leads on", 0, house.marks(4, 0, 2));
        check.is("of marks", 2, house.of(4, 0, 3));
        check.is("refused", -1, house.marks(2, 2, 4));
        check.is("refused", -1, house.marks(2, 2, -1));
        check.is("refused", -1, house.marks(12, 2, 0));
        check.is("refused", -1, house.marks(-1, 2, 0));
        check.is("refused", -1, house.marks(2, 8, 0));
        check.is("refused", -1, house.marks(2, -1, 0));
        check.is("nothing changed", 0, house.of(2, 2, 3));
        check.is("marks are no changes that are remembered", 2, house.count(10));
    }

    private static void marksGoWithTheEntry(Check check) {
        int[][] told = {{2, 10, 1}, {2, 11, 1}, {2, 10, 3}, {1, 10, 1}, {0, 0, 0}};
        for (int k = 0; k < told.length; k++) {
            WalkHouse house = new WalkHouse();
            house.entry(2, 2, 2, 10, 1);
            house.marks(2, 2, 3);
            check.is("what it was", 2, house.entry(2, 2, told[k][0], told[k][1], told[k][2]));
            check.is("accessed", k == 0 ? 1 : 0, house.count(11));
            check.is("dirty", k == 0 ? 1 : 0, house.count(12));
            house.entry(2, 2, 2, 10, 1);
            check.is("marks of the old one told again", k == 0 ? 3 : 0, house.of(2, 2, 3));
        }
    }

    private static void toldAlike(Check check) {
        WalkHouse house = new WalkHouse();
        check.is("none again", 0, house.entry(5, 5, 0, 7, 7));
        check.is("no change", 0, house.count(10));
        house.entry(5, 5, 2, 9, 9);
        house.entry(5, 5, 2, 9, 9);
        check.is("one change", 1, house.count(10));
        house.entry(5, 5, 2, 9, 8);
        house.entry(5, 5, 1, 9, 8);
        house.entry(5, 5, 0, 9, 8);
        check.is("four changes", 4, house.count(10));
    }
}
