import java.util.NoSuchElementException;

/**
 * A run of calls on a new object, told as texts: "root(0, 3) = -1" makes the call and asks for that answer (a boolean
 * counts 1 or 0, "throws" is a NoSuchElementException); without "=" the answer is left alone. No run is longer than
 * the 512 calls for which the document promises anything.
 */
final class Run {
    static final int CALLS = 512;
    /** No call of the face answers this. */
    static final int THROWN = -512512;

    private final Check check;
    private final String sentence;
    private final WalkHouse house = new WalkHouse();
    private int made;

    Run(Check check, String sentence) {
        this.check = check;
        this.sentence = sentence;
    }

    static Run of(Check check, String sentence, String... rows) {
        return new Run(check, sentence).rows(rows);
    }

    Run rows(String... rows) {
        for (String row : rows) {
            row(row);
        }
        return this;
    }

    Run row(String row) {
        int at = row.indexOf('=');
        if (at < 0) {
            answer(row);
            return this;
        }
        String due = row.substring(at + 1).trim();
        return is(due.equals("throws") ? THROWN : Integer.parseInt(due), row.substring(0, at).trim());
    }

    Run is(int due, String call) {
        check.is(sentence + " | call " + (made + 1) + ", " + call, due, answer(call));
        return this;
    }

    int made() {
        return made;
    }

    int answer(String call) {
        made++;
        if (made > CALLS) {
            throw new IllegalStateException("a run of more calls than are promised: " + sentence);
        }
        int open = call.indexOf('(');
        int close = call.indexOf(')');
        String inside = call.substring(open + 1, close).trim();
        String[] parts = inside.isEmpty() ? new String[0] : inside.split(",");
        int[] a = new int[parts.length];
        for (int k = 0; k < parts.length; k++) {
            String part = parts[k].trim();
            a[k] = part.equals("true") ? 1 : part.equals("false") ? 0 : Integer.parseInt(part);
        }
        return answer(house, call.substring(0, open).trim(), a);
    }

    /** One call of the face by its name; begin's last argument is true unless it is 0. */
    static int answer(WalkHouse house, String name, int... a) {
        switch (name) {
            case "entry": return house.entry(a[0], a[1], a[2], a[3], a[4]);
            case "marks": return house.marks(a[0], a[1], a[2]);
            case "root": return house.root(a[0], a[1]);
            case "current": return house.current(a[0]);
            case "access": return house.access(a[0], a[1]);
            case "would": return house.would(a[0], a[1]);
            case "steps": return house.steps(a[0], a[1]);
            case "begin": return house.begin(a[0], a[1], a[2], a[3] != 0);
            case "turn": return house.turn(a[0]);
            case "walker": return house.walker(a[0], a[1]);
            case "fence": return house.fence(a[0], a[1]);
            case "fenceSpace": return house.fenceSpace(a[0]);
            case "fenceAll": return house.fenceAll();
            case "way": return house.way(a[0], a[1], a[2]);
            case "of": return house.of(a[0], a[1], a[2]);
            case "cached": return cached(house, a[0], a[1]);
            case "upper": return upper(house, a[0], a[1]);
            case "permitted": return house.permitted(a[0], a[1], a[2]) ? 1 : 0;
            case "many": return house.many(a[0], a[1]);
            case "reverse": return house.reverse(a[0], a[1], a[2]);
            case "through": return house.through(a[0], a[1], a[2]);
            case "space": return house.space(a[0], a[1]);
            case "count": return house.count(a[0]);
            default: throw new IllegalArgumentException("no call of the face: " + name);
        }
    }

    private static int cached(WalkHouse house, int place, int what) {
        try {
            return house.cached(place, what);
        } catch (NoSuchElementException e) {
            return thrown(e);
        }
    }

    private static int upper(WalkHouse house, int place, int what) {
        try {
            return house.upper(place, what);
        } catch (NoSuchElementException e) {
            return thrown(e);
        }
    }

    /** A class below the one that the document names is not the one that it names. */
    private static int thrown(NoSuchElementException e) {
        if (e.getClass() != NoSuchElementException.class) {
            throw e;
        }
        return THROWN;
    }
}
