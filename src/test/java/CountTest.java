/** Promise 24 (count). */
public final class CountTest {
    public static void main(String[] args) {
        Check check = new Check();
        others(check);
        ofARun(check);
        check.end();
    }

    private static void others(Check check) {
        WalkHouse house = new WalkHouse();
        int[] refused = {-1, 14, 15, Integer.MIN_VALUE, Integer.MAX_VALUE};
        for (int what : refused) {
            check.is("count(" + what + ")", -1, house.count(what));
        }
    }

    private static void counts(Check check, WalkHouse house, int... due) {
        for (int what = 0; what < due.length; what++) {
            check.is("count(" + what + ")", due[what], house.count(what));
        }
    }

    private static void ofARun(Check check) {
        WalkHouse house = Check.chain();
        house.entry(2, 0, 2, 100, 7);
        house.entry(2, 1, 2, 101, 7);
        house.root(1, 0);
        counts(check, house, -1, 0, 0, 0, 0, 0, 0, 0, 0, 0, 6, 0, 0, 0);
        house.current(1);
        house.access(0, 1);
        counts(check, house, 1, 1, 2, 0, 0, 1, 0, 6, 0, 0, 6, 3, 1, 0);
        house.access(0, 1);
        counts(check, house, 1, 1, 2, 0, 0, 2, 1, 6, 0, 0, 6, 3, 1, 0);
        house.access(2, 0);
        counts(check, house, 1, 1, 2, 0, 0, 3, 1, 7, 1, 1, 6, 3, 1, 0);
        house.begin(0, 1, 0, false);
        counts(check, house, 1, 1, 2, 0, 0, 3, 1, 7, 2, 1, 6, 3, 1, 1);
        house.turn(0);
        counts(check, house, 1, 2, 2, 0, 0, 3, 1, 9, 2, 1, 6, 4, 1, 0);
        house.entry(2, 0, 2, 100, 3);
        counts(check, house, 1, 2, 2, 1, 0, 3, 1, 9, 2, 1, 7, 3, 0, 0);
        house.entry(1, 0, 0, 0, 0);
        counts(check, house, 1, 2, 2, 2, 1, 3, 1, 9, 2, 1, 8, 2, 0, 0);
        house.current(0);
        counts(check, house, 0, 2, 2, 2, 1, 3, 1, 9, 2, 1, 8, 2, 0, 0);
        house.marks(2, 0, 2);
        house.begin(3, 511, 0, true);
        house.begin(2, 511, 0, true);
        house.turn(2);
        counts(check, house, 0, 2, 2, 2, 1, 3, 1, 10, 2, 1, 8, 2, 1, 1);
        house.fenceAll();
        counts(check, house, 0, 0, 0, 0, 0, 3, 1, 10, 2, 1, 8, 2, 1, 0);
    }
}
