import java.util.NoSuchElementException;
import java.util.Random;

/**
 * Runs of 512 calls with fixed seeds, each answer against that of PlainHouse. And in every third run what must hold of
 * every machine: an access comes to what was foretold, to a frame that is permitted, and not to another than the way's
 * unless a cache is stale.
 */
public final class RandomRunsTest {
    private static final int RUNS = 1500;
    private static final int CALLS = 512;
    /** The most that one examined access asks. */
    private static final int EXAMINED = 24;
    /** How often each call is made, in the order of the document's face. */
    private static final int[] WEIGHTS = {16, 5, 4, 5, 22, 5, 5, 7, 14, 5, 3, 2, 1, 4, 2, 8, 8, 4, 4, 2, 2, 3, 7};

    private final Random random;
    private final WalkHouse house = new WalkHouse();
    private final PlainHouse plain = new PlainHouse();
    private final int run;
    /** Small runs keep to few tables and addresses, so that their calls meet. */
    private final int tables;
    private final int digits;
    private final int refusals;
    private final boolean examines;
    private int examined;

    private RandomRunsTest(int run) {
        this.run = run;
        random = new Random(run * 7919L + 5);
        tables = 2 + run % 11;
        digits = 1 + run / 11 % 8;
        refusals = run % 3 == 0 ? 20 : 1000;
        examines = run % 3 == 1;
    }

    public static void main(String[] args) {
        int wrong = 0;
        long calls = 0;
        for (int run = 0; run < RUNS && wrong < 5; run++) {
            RandomRunsTest one = new RandomRunsTest(run);
            for (int k = 0; k + one.examined < CALLS; k++) {
                if (!one.call(k)) {
                    wrong++;
                    break;
                }
                calls++;
            }
        }
        System.out.println(calls + " calls, " + wrong + " runs with a wrong answer");
        if (wrong != 0) {
            System.exit(1);
        }
    }

    private int number(int below) {
        if (random.nextInt(refusals) == 0) {
            return new int[] {-1, -2, below, below + 1, Integer.MIN_VALUE, Integer.MAX_VALUE}[random.nextInt(6)];
        }
        return random.nextInt(below);
    }

    private int table() {
        return random.nextInt(40) == 0 ? number(12) : number(tables);
    }

    private int digit() {
        return random.nextInt(20) == 0 ? number(8) : number(digits);
    }

    private int address() {
        return random.nextInt(20) == 0 ? number(512) : 64 * digit() + 8 * digit() + digit();
    }

    private int space() {
        return number(run % 2 == 0 ? 3 : 6);
    }

    private int rights() {
        return random.nextInt(3) == 0 ? number(16) : random.nextInt(4) == 0 ? 15 : 7;
    }

    private int wants() {
        return random.nextInt(2) == 0 ? number(2) : number(8);
    }

    private int kind() {
        return random.nextInt(5) == 0 ? number(3) : 1 + random.nextInt(2);
    }

    private int frame() {
        return random.nextInt(10) == 0 ? number(1000) : random.nextInt(10) == 0 ? 990 + random.nextInt(10) : 10 * random.nextInt(6);
    }

    private int chosen() {
        int sum = 0;
        for (int w : WEIGHTS) {
            sum += w;
        }
        int at = random.nextInt(sum);
        int k = 0;
        while (at >= WEIGHTS[k]) {
            at -= WEIGHTS[k];
            k++;
        }
        return k;
    }

    private boolean same(int k, String call, int due, int got) {
        if (due != got) {
            System.out.println("run " + run + ", call " + k + ": " + call + " answered " + got + ", due is " + due);
        }
        return due == got;
    }

    private boolean call(int k) {
        int which = k < 12 ? (k % 3 == 0 ? 2 : 0) : chosen();
        switch (which) {
            case 0: {
                int kind = kind();
                int t = table(), i = digit(), target = kind == 1 ? table() : frame(), r = rights();
                return same(k, "entry(" + t + ", " + i + ", " + kind + ", " + target + ", " + r + ")",
                        plain.entry(t, i, kind, target, r), house.entry(t, i, kind, target, r));
            }
            case 1: {
                int t = table(), i = digit(), m = number(4);
                return same(k, "marks(" + t + ", " + i + ", " + m + ")", plain.marks(t, i, m), house.marks(t, i, m));
            }
            case 2: {
                int s = space(), t = random.nextInt(15) == 0 ? -1 : table();
                return same(k, "root(" + s + ", " + t + ")", plain.root(s, t), house.root(s, t));
            }
            case 3: {
                int s = space();
                return same(k, "current(" + s + ")", plain.current(s), house.current(s));
            }
            case 4:
                return access(k);
            case 5: {
                int a = address(), w = wants();
                return same(k, "would(" + a + ", " + w + ")", plain.would(a, w), house.would(a, w));
            }
            case 6: {
                int a = address(), w = wants();
                return same(k, "steps(" + a + ", " + w + ")", plain.steps(a, w), house.steps(a, w));
            }
            case 7: {
                int w = number(4), a = address(), r = wants();
                boolean g = random.nextInt(3) == 0;
                return same(k, "begin(" + w + ", " + a + ", " + r + ", " + g + ")", plain.begin(w, a, r, g), house.begin(w, a, r, g));
            }
            case 8: {
                int w = number(4);
                return same(k, "turn(" + w + ")", plain.turn(w), house.turn(w));
            }
            case 9: {
                int w = number(4), what = number(6);
                return same(k, "walker(" + w + ", " + what + ")", plain.walker(w, what), house.walker(w, what));
            }
            case 10: {
                int a = address(), s = space();
                return same(k, "fence(" + a + ", " + s + ")", plain.fence(a, s), house.fence(a, s));
            }
            case 11: {
                int s = space();
                return same(k, "fenceSpace(" + s + ")", plain.fenceSpace(s), house.fenceSpace(s));
            }
            case 12:
                return random.nextInt(3) != 0 || same(k, "fenceAll()", plain.fenceAll(), house.fenceAll());
            default:
                return told(k, which);
        }
    }

    private boolean told(int k, int which) {
        switch (which) {
            case 13: {
                int s = space(), a = address(), what = number(4);
                return same(k, "way(" + s + ", " + a + ", " + what + ")", plain.way(s, a, what), house.way(s, a, what));
            }
            case 14: {
                int t = table(), i = digit(), what = number(4);
                return same(k, "of(" + t + ", " + i + ", " + what + ")", plain.of(t, i, what), house.of(t, i, what));
            }
            case 15: {
                int p = number(6), what = number(8);
                return same(k, "cached(" + p + ", " + what + ")", plainCached(p, what), Run.answer(house, "cached", p, what));
            }
            case 16: {
                int p = number(6), what = number(7);
                return same(k, "upper(" + p + ", " + what + ")", plainUpper(p, what), Run.answer(house, "upper", p, what));
            }
            case 17: {
                int s = space(), a = address(), f = frame() + (random.nextBoolean() ? a & 63 : 0);
                return same(k, "permitted(" + s + ", " + a + ", " + f + ")",
                        plain.permitted(s, a, f) ? 1 : 0, house.permitted(s, a, f) ? 1 : 0);
            }
            case 18: {
                int s = space(), a = address();
                return same(k, "many(" + s + ", " + a + ")", plain.many(s, a), house.many(s, a));
            }
            case 19: {
                int s = space(), f = random.nextInt(10) == 0 ? -1 - random.nextInt(7) : frame(), i = random.nextInt(20) - 2;
                return same(k, "reverse(" + s + ", " + f + ", " + i + ")", plain.reverse(s, f, i), house.reverse(s, f, i));
            }
            case 20: {
                int s = space(), t = table(), i = digit();
                return same(k, "through(" + s + ", " + t + ", " + i + ")", plain.through(s, t, i), house.through(s, t, i));
            }
            case 21: {
                int s = space(), what = number(3);
                return same(k, "space(" + s + ", " + what + ")", plain.space(s, what), house.space(s, what));
            }
            default: {
                int what = number(14);
                return same(k, "count(" + what + ")", plain.count(what), house.count(what));
            }
        }
    }

    private boolean access(int k) {
        int a = address(), w = wants();
        String call = "access(" + a + ", " + w + ")";
        if (!examines || k + examined + EXAMINED >= CALLS) {
            return same(k, call, plain.access(a, w), house.access(a, w));
        }
        examined += EXAMINED;
        int foretold = house.would(a, w);
        int steps = house.steps(a, w);
        int before = house.count(7);
        int stale = house.count(3) + house.count(4);
        int got = house.access(a, w);
        boolean right = same(k, call, plain.access(a, w), got) && same(k, call + " as foretold", foretold, got);
        if (got == -1) {
            return right;
        }
        int now = house.count(0);
        right &= same(k, "steps of " + call, steps, house.count(7) - before);
        if (got >= 0 && house.count(10) < 40) {
            right &= same(k, call + " is permitted", 1, house.permitted(now, a, got) ? 1 : 0);
        }
        // A global page of another space may hit, and a place may lack nothing that the way lacks.
        if (got >= 0 && stale == 0 && house.way(now, a, 0) != got) {
            right &= same(k, call + " is global elsewhere", 1, globalElsewhere(a, got) ? 1 : 0);
        }
        return right;
    }

    private boolean globalElsewhere(int address, int frame) {
        for (int s = 0; s < 6; s++) {
            if (house.way(s, address, 0) == frame && (house.way(s, address, 2) & 8) != 0) {
                return true;
            }
        }
        return false;
    }

    private int plainCached(int place, int what) {
        try {
            return plain.cached(place, what);
        } catch (NoSuchElementException e) {
            return Run.THROWN;
        }
    }

    private int plainUpper(int place, int what) {
        try {
            return plain.upper(place, what);
        } catch (NoSuchElementException e) {
            return Run.THROWN;
        }
    }
}
