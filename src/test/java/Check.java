/** What every test of the project shares: it prints each answer that is not the one due, and ends with exit code 1 then. */
final class Check {
    private int asked;
    private int wrong;

    void is(String call, long due, long got) {
        asked++;
        if (got != due) {
            wrong++;
            System.out.println(call + " answered " + got + ", due is " + due);
        }
    }

    void yes(String call, boolean got) {
        is(call, 1, got ? 1 : 0);
    }

    void no(String call, boolean got) {
        is(call, 0, got ? 1 : 0);
    }

    /** cached(place, what) must throw NoSuchElementException itself, not a class below it. */
    void cachedThrows(WalkHouse house, int place, int what) {
        boolean thrown = false;
        try {
            house.cached(place, what);
        } catch (java.util.NoSuchElementException e) {
            thrown = e.getClass() == java.util.NoSuchElementException.class;
        }
        yes("cached(" + place + ", " + what + ") throws", thrown);
    }

    void upperThrows(WalkHouse house, int place, int what) {
        boolean thrown = false;
        try {
            house.upper(place, what);
        } catch (java.util.NoSuchElementException e) {
            thrown = e.getClass() == java.util.NoSuchElementException.class;
        }
        yes("upper(" + place + ", " + what + ") throws", thrown);
    }

    /** All of a place of the cache but how many were used later and whether it is stale. */
    void cached(WalkHouse house, int place, int... due) {
        for (int what = 0; what < due.length; what++) {
            is("cached(" + place + ", " + what + ")", due[what], house.cached(place, what));
        }
    }

    void upper(WalkHouse house, int place, int... due) {
        for (int what = 0; what < due.length; what++) {
            is("upper(" + place + ", " + what + ")", due[what], house.upper(place, what));
        }
    }

    void end() {
        System.out.println(asked - wrong + " answers as due, " + wrong + " not");
        if (wrong != 0 || asked == 0) {
            System.exit(1);
        }
    }

    /** Space 0 with root 0, where entry 0 leads to table 1 and that one's entry 0 to table 2, all with all rights. */
    static WalkHouse chain() {
        WalkHouse house = new WalkHouse();
        house.root(0, 0);
        house.entry(0, 0, 1, 1, 7);
        house.entry(1, 0, 1, 2, 7);
        return house;
    }
}
