import java.util.ArrayList;
import java.util.Arrays;
import java.util.HashSet;
import java.util.List;
import java.util.NoSuchElementException;
import java.util.Set;
import java.util.TreeSet;

/**
 * The document written a second time, as plainly as it goes and without regard to speed: every state that the tables
 * had is kept whole, the caches are kept in the order of their use, and what would happen is found by letting it happen to a copy.
 */
final class PlainHouse {
    static final class Entry {
        int kind;
        int target;
        int rights;
        int marks;

        Entry copy() {
            Entry e = new Entry();
            e.kind = kind;
            e.target = target;
            e.rights = rights;
            e.marks = marks;
            return e;
        }

        boolean same(int otherKind, int otherTarget, int otherRights) {
            return kind == otherKind && (kind == 0 || target == otherTarget && rights == otherRights);
        }
    }

    /** Tables and roots at one time. */
    static final class Tables {
        final Entry[][] entries = new Entry[12][8];
        final int[] roots = new int[6];

        Tables() {
            Arrays.fill(roots, -1);
            for (Entry[] row : entries) {
                for (int i = 0; i < 8; i++) {
                    row[i] = new Entry();
                }
            }
        }

        Tables copy() {
            Tables t = new Tables();
            System.arraycopy(roots, 0, t.roots, 0, 6);
            for (int k = 0; k < 96; k++) {
                t.entries[k / 8][k % 8] = entries[k / 8][k % 8].copy();
            }
            return t;
        }
    }

    static final class Place {
        int tag;
        int level;
        int first;
        int target;
        int rights;
        int dirty;

        boolean covers(int address) {
            return address >= first && address < first + WIDE[level];
        }
    }

    static final class Walker {
        int state;
        int address;
        int wants;
        boolean guess;
        int tag;
        int level;
        int table;
        int rights = 7;
        int steps;
        int result;
    }

    private static final int[] WIDE = {1, 8, 64};

    private Tables now = new Tables();
    /** The tables ahead of each of the latest changes, the oldest first, and when that change was. */
    private final List<Tables> ahead = new ArrayList<>();
    private final List<Integer> when = new ArrayList<>();
    private int time;
    private int fenceOfAll;
    private final int[] fenceOfSpace = new int[6];
    private final int[][] fenceOfAddress = new int[6][512];
    private final int[] tags = {-1, -1, -1, -1, -1, -1};
    /** The spaces that were current, that which ceased longest ago first. */
    private final List<Integer> ceased = new ArrayList<>();
    private int current = -1;
    private final Place[] cache = new Place[6];
    private final Place[] upper = new Place[6];
    private final List<Integer> cacheUse = new ArrayList<>();
    private final List<Integer> upperUse = new ArrayList<>();
    private final Walker[] walkers = {new Walker(), new Walker(), new Walker(), new Walker()};
    private final int[] counts = new int[14];

    private PlainHouse copy() {
        PlainHouse p = new PlainHouse();
        p.now = now.copy();
        System.arraycopy(tags, 0, p.tags, 0, 6);
        p.current = current;
        System.arraycopy(cache, 0, p.cache, 0, 6);
        System.arraycopy(upper, 0, p.upper, 0, 6);
        p.cacheUse.addAll(cacheUse);
        p.upperUse.addAll(upperUse);
        System.arraycopy(counts, 0, p.counts, 0, 14);
        return p;
    }

    private static boolean in(int x, int below) {
        return x >= 0 && x < below;
    }

    private void change() {
        ahead.add(now.copy());
        when.add(++time);
        if (ahead.size() > 40) {
            ahead.remove(0);
            when.remove(0);
        }
    }

    int entry(int table, int i, int what, int target, int rights) {
        boolean good = in(table, 12) && in(i, 8) && in(what, 3)
                && (what == 0 || in(rights, 16) && in(target, what == 1 ? 12 : 1000));
        if (!good) {
            return -1;
        }
        Entry e = now.entries[table][i];
        int was = e.kind;
        if (!e.same(what, target, rights)) {
            change();
            e.kind = what;
            e.target = target;
            e.rights = rights;
            e.marks = 0;
        }
        return was;
    }

    int marks(int table, int i, int marks) {
        if (!in(table, 12) || !in(i, 8) || !in(marks, 4) || now.entries[table][i].kind == 0) {
            return -1;
        }
        int was = now.entries[table][i].marks;
        now.entries[table][i].marks = marks;
        return was;
    }

    int root(int space, int table) {
        if (!in(space, 6) || !in(table + 1, 13)) {
            return -2;
        }
        int was = now.roots[space];
        if (was != table) {
            change();
            now.roots[space] = table;
        }
        return was;
    }

    int current(int space) {
        if (!in(space, 6) || now.roots[space] == -1) {
            return -1;
        }
        if (current != -1 && current != space) {
            ceased.remove(Integer.valueOf(current));
            ceased.add(current);
        }
        current = space;
        if (tags[space] == -1) {
            tags[space] = newTag();
        }
        return tags[space];
    }

    private int newTag() {
        List<Integer> free = new ArrayList<>(List.of(0, 1, 2));
        for (int tag : tags) {
            free.remove(Integer.valueOf(tag));
        }
        if (!free.isEmpty()) {
            return free.get(0);
        }
        for (int space : ceased) {
            if (tags[space] != -1 && space != current) {
                int tag = tags[space];
                tags[space] = -1;
                for (int p = 0; p < 6; p++) {
                    if (cache[p] != null && cache[p].tag == tag) {
                        empty(cache, cacheUse, p);
                    }
                    if (upper[p] != null && upper[p].tag == tag) {
                        empty(upper, upperUse, p);
                    }
                }
                for (Walker w : walkers) {
                    if (w.state == 1 && w.tag == tag) {
                        w.state = 4;
                    }
                }
                return tag;
            }
        }
        throw new AssertionError("no tag");
    }

    private static void empty(Place[] places, List<Integer> use, int p) {
        places[p] = null;
        use.remove(Integer.valueOf(p));
    }

    /** Use lists have the place used longest ago first. */
    private static void use(List<Integer> use, int p) {
        use.remove(Integer.valueOf(p));
        use.add(p);
    }

    private static void come(Place[] places, List<Integer> use, Place comes) {
        int at = -1;
        for (int p = 5; p >= 0; p--) {
            if (places[p] == null) {
                at = p;
            }
        }
        for (int p = 0; p < 6; p++) {
            Place q = places[p];
            if (q != null && q.tag == comes.tag && q.level == comes.level && q.first == comes.first) {
                at = p;
            }
        }
        if (at == -1) {
            at = use.get(0);
        }
        places[at] = comes;
        use(use, at);
    }

    private boolean refusesAccess(int address, int wants) {
        return !in(address, 512) || !in(wants, 8) || current == -1;
    }

    int access(int address, int wants) {
        if (refusesAccess(address, wants)) {
            return -1;
        }
        counts[5]++;
        for (;;) {
            int latest = -1;
            for (int p : cacheUse) {
                if (cache[p].covers(address) && (cache[p].tag == tags[current] || (cache[p].rights & 8) != 0)) {
                    latest = p;
                }
            }
            if (latest == -1) {
                break;
            }
            Place q = cache[latest];
            boolean writes = (wants & 1) != 0;
            if ((q.rights & wants) == wants && (!writes || q.dirty == 1)) {
                use(cacheUse, latest);
                counts[6]++;
                return q.target + address - q.first;
            }
            empty(cache, cacheUse, latest);
        }
        Walker w = new Walker();
        start(w, address, wants, false);
        while (w.state == 1) {
            read(w);
        }
        if (w.state == 3) {
            counts[9]++;
            return -2 - w.result;
        }
        return w.result;
    }

    int would(int address, int wants) {
        return refusesAccess(address, wants) ? -1 : copy().access(address, wants);
    }

    int steps(int address, int wants) {
        if (refusesAccess(address, wants)) {
            return -1;
        }
        PlainHouse other = copy();
        other.access(address, wants);
        return other.counts[7] - counts[7];
    }

    private void start(Walker w, int address, int wants, boolean guess) {
        w.address = address;
        w.wants = wants;
        w.guess = guess;
        w.tag = tags[current];
        w.steps = 0;
        w.rights = 7;
        w.state = 1;
        for (int level = 1; level <= 2; level++) {
            for (int p = 0; p < 6; p++) {
                Place q = upper[p];
                if (q != null && q.tag == w.tag && q.level == level && q.covers(address)) {
                    use(upperUse, p);
                    counts[8]++;
                    w.level = level - 1;
                    w.table = q.target;
                    w.rights = q.rights;
                    return;
                }
            }
        }
        w.level = 2;
        w.table = now.roots[current];
        if (w.table == -1) {
            w.state = 3;
            w.result = 1;
        }
    }

    private static int digit(int address, int level) {
        return level == 2 ? address / 64 : level == 1 ? address / 8 % 8 : address % 8;
    }

    private void step(Walker w) {
        w.steps++;
        counts[7]++;
    }

    private void read(Walker w) {
        Entry e = now.entries[w.table][digit(w.address, w.level)];
        step(w);
        int fault = 0;
        if (e.kind == 0) {
            fault = 2;
        } else if (e.kind == 1 && w.level == 0) {
            fault = 3;
        } else if ((w.rights & e.rights & w.wants) != w.wants) {
            fault = 4;
        }
        if (fault != 0) {
            w.state = 3;
            w.result = fault;
            return;
        }
        w.rights &= e.rights;
        if (!w.guess) {
            int was = e.marks;
            e.marks |= 1;
            if (e.kind == 2 && (w.wants & 1) != 0) {
                e.marks |= 2;
            }
            if (e.marks != was) {
                step(w);
            }
        }
        Place q = new Place();
        q.tag = w.tag;
        q.level = w.level;
        q.first = w.address / WIDE[w.level] * WIDE[w.level];
        q.target = e.target;
        q.rights = w.rights | (e.kind == 2 ? e.rights & 8 : 0);
        q.dirty = e.marks / 2;
        if (e.marks % 2 == 1) {
            come(e.kind == 2 ? cache : upper, e.kind == 2 ? cacheUse : upperUse, q);
        }
        if (e.kind == 2) {
            w.state = 2;
            w.result = e.target + w.address % WIDE[w.level];
        } else {
            w.level--;
            w.table = e.target;
        }
    }

    int begin(int walker, int address, int wants, boolean guess) {
        if (!in(walker, 4) || refusesAccess(address, wants) || walkers[walker].state == 1) {
            return -1;
        }
        start(walkers[walker], address, wants, guess);
        return walkers[walker].state;
    }

    int turn(int walker) {
        if (!in(walker, 4) || walkers[walker].state != 1) {
            return -1;
        }
        read(walkers[walker]);
        return walkers[walker].state;
    }

    int walker(int walker, int what) {
        if (!in(walker, 4) || !in(what, 6)) {
            return -1;
        }
        Walker w = walkers[walker];
        if (w.state == 0) {
            return what == 0 ? 0 : -1;
        }
        boolean ended = w.state == 2 || w.state == 3;
        return new int[] {w.state, w.address, w.steps, ended ? w.result : -1, w.state == 1 ? w.level : -1, w.tag}[what];
    }

    int fence(int address, int space) {
        if (!in(address, 512) || !in(space, 6)) {
            return -1;
        }
        fenceOfAddress[space][address] = time;
        int gone = 0;
        for (int p = 0; p < 6; p++) {
            Place q = cache[p];
            if (q != null && q.covers(address) && (q.tag == tags[space] || (q.rights & 8) != 0)) {
                empty(cache, cacheUse, p);
                gone++;
            }
            q = upper[p];
            if (q != null && q.covers(address) && q.tag == tags[space]) {
                empty(upper, upperUse, p);
                gone++;
            }
        }
        for (Walker w : walkers) {
            if (w.state == 1 && (w.tag == tags[space] || w.address == address)) {
                w.state = 4;
            }
        }
        return gone;
    }

    int fenceSpace(int space) {
        if (!in(space, 6)) {
            return -1;
        }
        fenceOfSpace[space] = time;
        int gone = 0;
        for (int p = 0; p < 6; p++) {
            if (cache[p] != null && cache[p].tag == tags[space] && (cache[p].rights & 8) == 0) {
                empty(cache, cacheUse, p);
                gone++;
            }
            if (upper[p] != null && upper[p].tag == tags[space]) {
                empty(upper, upperUse, p);
                gone++;
            }
        }
        for (Walker w : walkers) {
            if (w.state == 1 && w.tag == tags[space]) {
                w.state = 4;
            }
        }
        return gone;
    }

    int fenceAll() {
        fenceOfAll = time;
        int gone = cacheUse.size() + upperUse.size();
        Arrays.fill(cache, null);
        Arrays.fill(upper, null);
        cacheUse.clear();
        upperUse.clear();
        for (Walker w : walkers) {
            if (w.state == 1) {
                w.state = 4;
            }
        }
        return gone;
    }

    /** The entries of the way, from level 2 down. */
    private List<Entry> wayOf(int space, int address) {
        List<Entry> way = new ArrayList<>();
        int table = now.roots[space];
        for (int level = 2; level >= 0 && table != -1; level--) {
            Entry e = now.entries[table][digit(address, level)];
            way.add(e);
            table = e.kind == 1 ? e.target : -1;
        }
        return way;
    }

    private static int together(List<Entry> way) {
        int rights = 7;
        for (Entry e : way) {
            rights &= e.rights;
        }
        return rights;
    }

    int way(int space, int address, int what) {
        if (!in(space, 6) || !in(address, 512) || !in(what, 4)) {
            return -1;
        }
        List<Entry> way = wayOf(space, address);
        Entry last = way.isEmpty() ? null : way.get(way.size() - 1);
        int fault = last == null ? 1 : last.kind == 0 ? 2 : last.kind == 1 ? 3 : 0;
        if (fault != 0) {
            return what == 0 ? -2 - fault : -1;
        }
        int level = 3 - way.size();
        return new int[] {last.target + address % WIDE[level], level, together(way) | last.rights & 8, last.marks}[what];
    }

    int of(int table, int i, int what) {
        if (!in(table, 12) || !in(i, 8) || !in(what, 4)) {
            return -1;
        }
        Entry e = now.entries[table][i];
        return what == 0 ? e.kind : e.kind == 0 ? -1 : new int[] {0, e.target, e.rights, e.marks}[what];
    }

    private int spaceOf(int tag) {
        for (int space = 0; space < 6; space++) {
            if (tags[space] == tag) {
                return space;
            }
        }
        throw new AssertionError("a tag without a space");
    }

    private int stalePage(Place q) {
        int space = spaceOf(q.tag);
        boolean same = way(space, q.first, 0) == q.target && way(space, q.first, 1) == q.level
                && way(space, q.first, 2) == q.rights;
        return same ? 0 : 1;
    }

    private int staleUpper(Place q) {
        List<Entry> way = wayOf(spaceOf(q.tag), q.first);
        if (way.size() < 3 - q.level) {
            return 1;
        }
        List<Entry> part = way.subList(0, 3 - q.level);
        Entry e = part.get(part.size() - 1);
        return e.kind == 1 && e.target == q.target && together(part) == q.rights ? 0 : 1;
    }

    int cached(int place, int what) {
        if (!in(place, 6) || !in(what, 8) || cache[place] == null) {
            throw new NoSuchElementException();
        }
        Place q = cache[place];
        int later = cacheUse.size() - 1 - cacheUse.indexOf(place);
        return new int[] {q.tag, q.level, q.first, q.target, q.rights, q.dirty, later, stalePage(q)}[what];
    }

    int upper(int place, int what) {
        if (!in(place, 6) || !in(what, 7) || upper[place] == null) {
            throw new NoSuchElementException();
        }
        Place q = upper[place];
        int later = upperUse.size() - 1 - upperUse.indexOf(place);
        return new int[] {q.tag, q.level, q.first, q.target, q.rights, later, staleUpper(q)}[what];
    }

    /** The states of the tables since a fence, as far as they are remembered. */
    private List<Tables> since(int fence) {
        List<Tables> states = new ArrayList<>();
        for (int k = 0; k < ahead.size(); k++) {
            if (when.get(k) > fence) {
                states.add(ahead.get(k));
            }
        }
        states.add(now);
        return states;
    }

    private static void frames(List<Tables> states, int table, int level, int address, boolean global, Set<Integer> into) {
        Set<Integer> tables = new HashSet<>();
        for (Tables t : states) {
            Entry e = t.entries[table][digit(address, level)];
            if (e.kind == 2 && (!global || (e.rights & 8) != 0)) {
                into.add(e.target + address % WIDE[level]);
            }
            if (e.kind == 1 && level > 0) {
                tables.add(e.target);
            }
        }
        for (int next : tables) {
            frames(states, next, level - 1, address, global, into);
        }
    }

    private Set<Integer> permitted(int space, int address) {
        Set<Integer> found = new TreeSet<>();
        int fence = Math.max(fenceOfAll, Math.max(fenceOfSpace[space], fenceOfAddress[space][address]));
        for (int other = 0; other < 6; other++) {
            Set<Integer> roots = new HashSet<>();
            Set<Integer> globalRoots = new HashSet<>();
            for (Tables t : since(fence)) {
                roots.add(t.roots[other]);
            }
            for (Tables t : since(fenceOfAll)) {
                globalRoots.add(t.roots[other]);
            }
            roots.remove(-1);
            globalRoots.remove(-1);
            if (other == space) {
                for (int root : roots) {
                    frames(since(fence), root, 2, address, false, found);
                }
            }
            for (int root : globalRoots) {
                frames(since(fenceOfAll), root, 2, address, true, found);
            }
        }
        return found;
    }

    boolean permitted(int space, int address, int frame) {
        return in(space, 6) && in(address, 512) && permitted(space, address).contains(frame);
    }

    int many(int space, int address) {
        return in(space, 6) && in(address, 512) ? permitted(space, address).size() : -1;
    }

    int reverse(int space, int frame, int i) {
        if (!in(space, 6) || i < -1) {
            return -1;
        }
        List<Integer> found = new ArrayList<>();
        for (int address = 0; address < 512; address++) {
            if (way(space, address, 1) != -1 && way(space, address, 0) == frame) {
                found.add(address);
            }
        }
        return i == -1 ? found.size() : i < found.size() ? found.get(i) : -1;
    }

    int through(int space, int table, int i) {
        if (!in(space, 6) || !in(table, 12) || !in(i, 8)) {
            return -1;
        }
        int found = 0;
        for (int address = 0; address < 512; address++) {
            boolean on = false;
            for (Entry e : wayOf(space, address)) {
                on |= e == now.entries[table][i];
            }
            found += on ? 1 : 0;
        }
        return found;
    }

    int space(int space, int what) {
        if (!in(space, 6) || !in(what, 3)) {
            return -1;
        }
        return new int[] {now.roots[space], tags[space], current == space ? 1 : 0}[what];
    }

    int count(int what) {
        switch (what) {
            case 0: return current;
            case 1: return cacheUse.size();
            case 2: return upperUse.size();
            case 3: return cacheUse.stream().mapToInt(p -> stalePage(cache[p])).sum();
            case 4: return upperUse.stream().mapToInt(p -> staleUpper(upper[p])).sum();
            case 10: return ahead.size();
            case 11: return (int) Arrays.stream(now.entries).flatMap(Arrays::stream).filter(e -> e.marks % 2 == 1).count();
            case 12: return (int) Arrays.stream(now.entries).flatMap(Arrays::stream).filter(e -> e.marks > 1).count();
            case 13: return (int) Arrays.stream(walkers).filter(w -> w.state == 1).count();
            default: return what >= 5 && what <= 9 ? counts[what] : -1;
        }
    }
}
