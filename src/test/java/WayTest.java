/** Promises 15 (way), 21 (reverse) and 22 (through). */
public final class WayTest {
    public static void main(String[] args) {
        Check check = new Check();
        ways(check);
        nothingOfCaches(check);
        reverse(check);
        through(check);
        throughTwice(check);
        check.end();
    }

    private static WalkHouse filled() {
        WalkHouse house = Check.chain();
        house.entry(0, 0, 1, 1, 14);
        house.entry(1, 0, 1, 2, 3);
        house.entry(2, 3, 2, 100, 7);
        house.entry(2, 4, 1, 5, 7);
        house.entry(1, 1, 2, 200, 15);
        house.entry(0, 7, 2, 150, 1);
        return house;
    }

    private static void way(Check check, WalkHouse house, int space, int address, int... due) {
        for (int what = 0; what < due.length; what++) {
            check.is("way(" + space + ", " + address + ", " + what + ")", due[what], house.way(space, address, what));
        }
    }

    private static void ways(Check check) {
        WalkHouse house = filled();
        house.marks(2, 3, 2);
        way(check, house, 0, 3, 100, 0, 2, 2);
        way(check, house, 0, 15, 207, 1, 14, 0);
        way(check, house, 0, 511, 213, 2, 1, 0);
        way(check, house, 0, 448, 150, 2, 1, 0);
        way(check, house, 0, 0, -4, -1, -1, -1);
        way(check, house, 0, 64, -4, -1, -1, -1);
        way(check, house, 0, 16, -4, -1, -1, -1);
        way(check, house, 0, 4, -5, -1, -1, -1);
        way(check, house, 5, 4, -3, -1, -1, -1);
        int[][] others = {{-1, 0, 0}, {6, 0, 0}, {0, -1, 0}, {0, 512, 0}, {0, 3, -1}, {0, 3, 4}, {0, 4, 4}, {0, 4, -1}};
        for (int[] o : others) {
            check.is("way refused", -1, house.way(o[0], o[1], o[2]));
        }
    }

    private static void nothingOfCaches(Check check) {
        WalkHouse house = filled();
        house.current(0);
        house.access(3, 0);
        house.entry(2, 3, 2, 101, 7);
        check.is("the cache is stale", 100, house.would(3, 0));
        check.is("the way is new", 101, house.way(0, 3, 0));
        int steps = house.count(7);
        house.way(0, 3, 0);
        check.is("no steps", steps, house.count(7));
        check.is("no marks", 0, house.of(2, 3, 3));
    }

    private static void reverse(Check check) {
        WalkHouse house = filled();
        check.is("two have frame 207", 2, house.reverse(0, 207, -1));
        check.is("the first", 15, house.reverse(0, 207, 0));
        check.is("the second", 448 + 57, house.reverse(0, 207, 1));
        check.is("no third", -1, house.reverse(0, 207, 2));
        check.is("none", 0, house.reverse(0, 5, -1));
        check.is("none", -1, house.reverse(0, 5, 0));
        check.is("without a root", 0, house.reverse(1, 207, -1));
        check.is("refused", -1, house.reverse(-1, 207, -1));
        check.is("refused", -1, house.reverse(6, 207, -1));
        check.is("refused", -1, house.reverse(0, 207, -2));
        check.is("refused", -1, house.reverse(-1, -1, -1));
        check.is("refused", -1, house.reverse(0, -1, -2));
        int[] framesOfNone = {Integer.MIN_VALUE, -6, -5, -4, -3, -2, -1, 1000, 1063, Integer.MAX_VALUE};
        for (int frame : framesOfNone) {
            check.is("none of frame " + frame, 0, house.reverse(0, frame, -1));
            check.is("none of frame " + frame, 0, house.reverse(1, frame, -1));
            check.is("no first of frame " + frame, -1, house.reverse(0, frame, 0));
        }
        house.entry(0, 7, 2, 999, 1);
        check.is("a frame behind the last page's", 511, house.reverse(0, 999 + 63, 0));
        check.is("only up to the last address", -1, house.reverse(0, 999 + 63, 1));
        house.entry(2, 0, 2, 0, 0);
        check.is("frame 0", 0, house.reverse(0, 0, 0));
        check.is("frame 0", 1, house.reverse(0, 0, -1));
        house.entry(3, 0, 2, 8, 0);
        house.entry(3, 1, 2, 8, 0);
        house.root(1, 3);
        check.is("twice", 2, house.reverse(1, 8 + 63, -1));
        check.is("upwards", 63, house.reverse(1, 8 + 63, 0));
        check.is("upwards", 127, house.reverse(1, 8 + 63, 1));
    }

    private static void through(Check check) {
        WalkHouse house = filled();
        check.is("level 2", 64, house.through(0, 0, 0));
        check.is("level 2, a page", 64, house.through(0, 0, 7));
        check.is("level 2, none", 64, house.through(0, 0, 3));
        check.is("level 1", 8, house.through(0, 1, 0));
        check.is("level 1, a page", 8, house.through(0, 1, 1));
        check.is("level 1, none", 8, house.through(0, 1, 7));
        check.is("level 0", 1, house.through(0, 2, 3));
        check.is("level 0, leads on", 1, house.through(0, 2, 4));
        check.is("level 0, none", 1, house.through(0, 2, 0));
        check.is("behind level 0", 0, house.through(0, 5, 0));
        check.is("no root", 0, house.through(1, 0, 0));
        house.entry(0, 1, 1, 1, 0);
        check.is("by two", 16, house.through(0, 1, 0));
        check.is("by two", 2, house.through(0, 2, 3));
        int[][] others = {{-1, 0, 0}, {6, 0, 0}, {0, -1, 0}, {0, 12, 0}, {0, 0, -1}, {0, 0, 8}};
        for (int[] o : others) {
            check.is("through refused", -1, house.through(o[0], o[1], o[2]));
        }
    }

    private static void throughTwice(Check check) {
        WalkHouse house = new WalkHouse();
        house.root(0, 0);
        house.entry(0, 0, 1, 0, 7);
        // Every address with a 0 in front of the digit where it ends: each counted once.
        check.is("at several levels", 64, house.through(0, 0, 0));
        check.is("at several levels", 64 + 8 + 1, house.through(0, 0, 1));
    }
}
