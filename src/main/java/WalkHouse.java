import java.util.Arrays;
import java.util.NoSuchElementException;

/** One machine with tables of three levels, spaces with recycled tags, two caches and four walkers. */
public final class WalkHouse {
    public static final int NONE = -1;

    private static final int TABLES = 12;
    private static final int ENTRIES = 8;
    private static final int CELLS = TABLES * ENTRIES;
    private static final int FRAMES = 1000;
    private static final int ADDRESSES = 512;
    private static final int SPACES = 6;
    private static final int TAGS = 3;
    private static final int PLACES = 6;
    private static final int WALKERS = 4;
    private static final int LEVELS = 3;
    private static final int TOP_LEVEL = LEVELS - 1;
    private static final int REMEMBERED = 40;
    private static final int CALLS = 512;

    private static final int EMPTY = 0;
    private static final int LEADS = 1;
    private static final int PAGE = 2;

    private static final int WRITE = 1;
    private static final int GLOBAL = 8;
    private static final int WANTABLE = 7;
    private static final int ALL_RIGHTS = 15;

    private static final int ACCESSED = 1;
    private static final int DIRTY = 2;
    private static final int ALL_MARKS = 3;

    private static final int NO_FAULT = 0;
    private static final int NO_ROOT = 1;
    private static final int ENTRY_IS_NONE = 2;
    private static final int TOO_DEEP = 3;
    private static final int LACKS_RIGHTS = 4;

    private static final int IDLE = 0;
    private static final int GOING = 1;
    private static final int DONE = 2;
    private static final int FAULTED = 3;
    private static final int ABORTED = 4;

    private static final int ROOT_REFUSED = -2;
    private static final int FAULT_BASE = -2;

    private final int[] codes = new int[CELLS];
    private final int[] marksOf = new int[CELLS];
    private final Spaces spaces = new Spaces();
    private final Store cache = new Store();
    private final Store uppers = new Store();
    private final Walk[] walkers = new Walk[WALKERS];
    private final Walk accessWalk = new Walk();
    private final Way traced = new Way();
    private final Changes changes = new Changes();
    private final Fences fences = new Fences();
    private final FrameSet frames = new FrameSet();
    private int accesses;
    private int hits;
    private int stepsTaken;
    private int walksBehindUpper;
    private int accessFaults;

    public WalkHouse() {
        for (int w = 0; w < WALKERS; w++) {
            walkers[w] = new Walk();
        }
    }

    // ---- the face: tables and spaces ----

    public int entry(int table, int i, int what, int target, int rights) {
        if (!isCell(table, i) || !isEntry(what, target, rights)) {
            return NONE;
        }
        int cell = cellOf(table, i);
        int before = codes[cell];
        int after = what == EMPTY ? 0 : codeOf(what, target, rights);
        if (before != after) {
            changes.note(cell, before);
            codes[cell] = after;
            marksOf[cell] = 0;
        }
        return kindOf(before);
    }

    public int marks(int table, int i, int marks) {
        if (!isCell(table, i) || marks < 0 || marks > ALL_MARKS) {
            return NONE;
        }
        int cell = cellOf(table, i);
        if (kindOf(codes[cell]) == EMPTY) {
            return NONE;
        }
        int before = marksOf[cell];
        marksOf[cell] = marks;
        return before;
    }

    public int root(int space, int table) {
        if (!isSpace(space) || table < NONE || table >= TABLES) {
            return ROOT_REFUSED;
        }
        int before = spaces.roots[space];
        if (before != table) {
            changes.note(rootKey(space), before);
            spaces.roots[space] = table;
        }
        return before;
    }

    public int current(int space) {
        if (!isSpace(space) || spaces.roots[space] == NONE) {
            return NONE;
        }
        spaces.enter(space);
        if (spaces.tags[space] == NONE) {
            int tag = spaces.leastFreeTag();
            if (tag == NONE) {
                tag = spaces.takeOldestTag();
                forgetTag(tag);
            }
            spaces.tags[space] = tag;
        }
        return spaces.tags[space];
    }

    // ---- the face: accesses ----

    public int access(int address, int wants) {
        if (!mayAccess(address, wants)) {
            return NONE;
        }
        accesses++;
        Place hit = latestFit(address, wants);
        clearFitsUsedLater(address, hit);
        if (hit != null) {
            hits++;
            cache.touch(hit);
            return hit.frameAt(address);
        }
        startWalk(accessWalk, address, wants, false);
        finishWalk(accessWalk, true);
        stepsTaken += accessWalk.steps;
        if (accessWalk.state == FAULTED) {
            accessFaults++;
        }
        return accessWalk.answer();
    }

    public int would(int address, int wants) {
        if (!mayAccess(address, wants)) {
            return NONE;
        }
        Place hit = latestFit(address, wants);
        if (hit != null) {
            return hit.frameAt(address);
        }
        rehearseWalk(address, wants);
        return accessWalk.answer();
    }

    public int steps(int address, int wants) {
        if (!mayAccess(address, wants)) {
            return NONE;
        }
        if (latestFit(address, wants) != null) {
            return 0;
        }
        rehearseWalk(address, wants);
        return accessWalk.steps;
    }

    // ---- the face: walkers ----

    public int begin(int walker, int address, int wants, boolean guess) {
        if (!isWalker(walker) || !mayAccess(address, wants)) {
            return NONE;
        }
        Walk walk = walkers[walker];
        if (walk.state == GOING) {
            return NONE;
        }
        startWalk(walk, address, wants, guess);
        return walk.state;
    }

    public int turn(int walker) {
        if (!isWalker(walker)) {
            return NONE;
        }
        Walk walk = walkers[walker];
        if (walk.state != GOING) {
            return NONE;
        }
        int before = walk.steps;
        readEntry(walk, true);
        stepsTaken += walk.steps - before;
        return walk.state;
    }

    public int walker(int walker, int what) {
        if (!isWalker(walker)) {
            return NONE;
        }
        Walk walk = walkers[walker];
        if (what == 0) {
            return walk.state;
        }
        if (walk.state == IDLE) {
            return NONE;
        }
        switch (what) {
            case 1:
                return walk.address;
            case 2:
                return walk.steps;
            case 3:
                return walk.state == DONE || walk.state == FAULTED ? walk.result : NONE;
            case 4:
                return walk.state == GOING ? walk.level : NONE;
            case 5:
                return walk.tag;
            default:
                return NONE;
        }
    }

    // ---- the face: fences ----

    public int fence(int address, int space) {
        if (!isAddress(address) || !isSpace(space)) {
            return NONE;
        }
        int tag = spaces.tags[space];
        for (int w = 0; w < WALKERS; w++) {
            if (walkers[w].tag == tag || walkers[w].address == address) {
                walkers[w].abort();
            }
        }
        fences.noteAddress(space, address, changes.total);
        return cache.dropAddress(tag, address) + uppers.dropAddress(tag, address);
    }

    public int fenceSpace(int space) {
        if (!isSpace(space)) {
            return NONE;
        }
        int tag = spaces.tags[space];
        abortWalkersOf(tag);
        fences.ofSpace[space] = changes.total;
        return cache.dropTag(tag, false) + uppers.dropTag(tag, false);
    }

    public int fenceAll() {
        for (int w = 0; w < WALKERS; w++) {
            walkers[w].abort();
        }
        fences.ofAll = changes.total;
        return cache.dropAll() + uppers.dropAll();
    }

    // ---- the face: what is told ----

    public int way(int space, int address, int what) {
        if (!isSpace(space) || !isAddress(address)) {
            return NONE;
        }
        trace(space, address);
        if (what == 0) {
            return traced.fault == NO_FAULT ? traced.frameAt(address) : FAULT_BASE - traced.fault;
        }
        if (traced.fault != NO_FAULT) {
            return NONE;
        }
        switch (what) {
            case 1:
                return traced.level;
            case 2:
                return traced.rights;
            case 3:
                return marksOf[traced.cells[traced.level]];
            default:
                return NONE;
        }
    }

    public int of(int table, int i, int what) {
        if (!isCell(table, i)) {
            return NONE;
        }
        int cell = cellOf(table, i);
        int code = codes[cell];
        if (what == 0) {
            return kindOf(code);
        }
        if (kindOf(code) == EMPTY) {
            return NONE;
        }
        switch (what) {
            case 1:
                return targetOf(code);
            case 2:
                return rightsOf(code);
            case 3:
                return marksOf[cell];
            default:
                return NONE;
        }
    }

    public int cached(int place, int what) throws NoSuchElementException {
        Place held = cache.heldAt(place);
        if (held == null || what < 0 || what > 7) {
            throw new NoSuchElementException();
        }
        switch (what) {
            case 5:
                return held.dirty;
            case 6:
                return cache.usedLaterThan(held);
            case 7:
                return isStalePage(held) ? 1 : 0;
            default:
                return held.told(what);
        }
    }

    public int upper(int place, int what) throws NoSuchElementException {
        Place held = uppers.heldAt(place);
        if (held == null || what < 0 || what > 6) {
            throw new NoSuchElementException();
        }
        switch (what) {
            case 5:
                return uppers.usedLaterThan(held);
            case 6:
                return isStaleUpper(held) ? 1 : 0;
            default:
                return held.told(what);
        }
    }

    public boolean permitted(int space, int address, int frame) {
        if (!isSpace(space) || !isAddress(address)) {
            return false;
        }
        gatherPermitted(space, address);
        return frames.has(frame);
    }

    public int many(int space, int address) {
        if (!isSpace(space) || !isAddress(address)) {
            return NONE;
        }
        gatherPermitted(space, address);
        return frames.size();
    }

    public int reverse(int space, int frame, int i) {
        if (!isSpace(space) || i < NONE) {
            return NONE;
        }
        int found = 0;
        for (int address = 0; address < ADDRESSES; address++) {
            trace(space, address);
            if (traced.fault == NO_FAULT && traced.frameAt(address) == frame) {
                if (found == i) {
                    return address;
                }
                found++;
            }
        }
        return i == NONE ? found : NONE;
    }

    public int through(int space, int table, int i) {
        if (!isSpace(space) || !isCell(table, i)) {
            return NONE;
        }
        int cell = cellOf(table, i);
        int found = 0;
        for (int address = 0; address < ADDRESSES; address++) {
            trace(space, address);
            if (traced.comesBy(cell)) {
                found++;
            }
        }
        return found;
    }

    public int space(int space, int what) {
        if (!isSpace(space)) {
            return NONE;
        }
        switch (what) {
            case 0:
                return spaces.roots[space];
            case 1:
                return spaces.tags[space];
            case 2:
                return spaces.now == space ? 1 : 0;
            default:
                return NONE;
        }
    }

    public int count(int what) {
        switch (what) {
            case 0:
                return spaces.now;
            case 1:
                return cache.held();
            case 2:
                return uppers.held();
            case 3:
                return stalePages();
            case 4:
                return staleUppers();
            case 5:
                return accesses;
            case 6:
                return hits;
            case 7:
                return stepsTaken;
            case 8:
                return walksBehindUpper;
            case 9:
                return accessFaults;
            case 10:
                return changes.remembered();
            case 11:
                return entriesMarked(ACCESSED);
            case 12:
                return entriesMarked(DIRTY);
            case 13:
                return walkersGoing();
            default:
                return NONE;
        }
    }

    // ---- which arguments there are ----

    private static boolean isCell(int table, int i) {
        return table >= 0 && table < TABLES && i >= 0 && i < ENTRIES;
    }

    private static boolean isEntry(int what, int target, int rights) {
        if (what == EMPTY) {
            return true;
        }
        if (rights < 0 || rights > ALL_RIGHTS || target < 0) {
            return false;
        }
        return what == LEADS && target < TABLES || what == PAGE && target < FRAMES;
    }

    private static boolean isSpace(int space) {
        return space >= 0 && space < SPACES;
    }

    private static boolean isAddress(int address) {
        return address >= 0 && address < ADDRESSES;
    }

    private static boolean isWalker(int walker) {
        return walker >= 0 && walker < WALKERS;
    }

    private boolean mayAccess(int address, int wants) {
        return isAddress(address) && wants >= 0 && wants <= WANTABLE && spaces.now != NONE;
    }

    // ---- an entry as one number, so that the log of changes holds it in one row ----

    private static int codeOf(int kind, int target, int rights) {
        return kind | rights << 2 | target << 6;
    }

    private static int kindOf(int code) {
        return code & 3;
    }

    private static int rightsOf(int code) {
        return code >> 2 & ALL_RIGHTS;
    }

    private static int targetOf(int code) {
        return code >> 6;
    }

    // ---- cells, addresses ----

    private static int cellOf(int table, int i) {
        return table * ENTRIES + i;
    }

    /** Roots stand behind the cells in the log of changes. */
    private static int rootKey(int space) {
        return CELLS + space;
    }

    private static int widthOf(int level) {
        return 1 << 3 * level;
    }

    private static int firstOf(int address, int level) {
        return address - restOf(address, level);
    }

    private static int restOf(int address, int level) {
        return address & widthOf(level) - 1;
    }

    private static int digitOf(int address, int level) {
        return address >> 3 * level & ENTRIES - 1;
    }

    // ---- hits in the cache ----

    private boolean fits(Place place, int address) {
        return place.has(address) && (place.tag == spaces.tagNow() || place.isGlobal());
    }

    private Place latestFit(int address, int wants) {
        Place latest = null;
        for (int p = 0; p < PLACES; p++) {
            Place place = cache.places[p];
            if (fits(place, address) && place.serves(wants) && (latest == null || place.used > latest.used)) {
                latest = place;
            }
        }
        return latest;
    }

    private void clearFitsUsedLater(int address, Place hit) {
        for (int p = 0; p < PLACES; p++) {
            Place place = cache.places[p];
            if (fits(place, address) && (hit == null || place.used > hit.used)) {
                place.full = false;
            }
        }
    }

    // ---- walks ----

    private Place upperAhead(int tag, int address) {
        Place near = uppers.find(tag, 1, firstOf(address, 1));
        return near != null ? near : uppers.find(tag, 2, firstOf(address, 2));
    }

    /** Puts a walk where it begins; answers the place of the upper cache that it begins behind, or null. */
    private Place placeWalk(Walk walk, int address, int wants, boolean guess) {
        int tag = spaces.tagNow();
        walk.reset(address, wants, guess, tag);
        Place behind = upperAhead(tag, address);
        if (behind != null) {
            walk.leadOn(behind.level - 1, behind.target, behind.rights);
        } else if (spaces.rootNow() == NONE) {
            walk.fail(NO_ROOT);
        } else {
            walk.leadOn(TOP_LEVEL, spaces.rootNow(), WANTABLE);
        }
        return behind;
    }

    private void startWalk(Walk walk, int address, int wants, boolean guess) {
        Place behind = placeWalk(walk, address, wants, guess);
        if (behind != null) {
            uppers.touch(behind);
            walksBehindUpper++;
        }
    }

    private void finishWalk(Walk walk, boolean live) {
        for (int n = 0; n < LEVELS && walk.state == GOING; n++) {
            readEntry(walk, live);
        }
    }

    private void rehearseWalk(int address, int wants) {
        placeWalk(accessWalk, address, wants, false);
        finishWalk(accessWalk, false);
    }

    /** Reads the entry that is next; only if live does it leave marks and come to the caches. */
    private void readEntry(Walk walk, boolean live) {
        int cell = cellOf(walk.table, digitOf(walk.address, walk.level));
        int code = codes[cell];
        int rights = walk.rights & rightsOf(code);
        walk.steps++;
        int fault = faultOf(code, walk.level, walk.wants & ~rights);
        if (fault != NO_FAULT) {
            walk.fail(fault);
            return;
        }
        if (!walk.guess) {
            setMarks(walk, cell, live);
        }
        if (live && (marksOf[cell] & ACCESSED) != 0) {
            bringToCaches(walk, cell, rights);
        }
        walk.cells[walk.level] = cell;
        if (kindOf(code) == PAGE) {
            walk.finish(targetOf(code) + restOf(walk.address, walk.level));
        } else {
            walk.leadOn(walk.level - 1, targetOf(code), rights);
        }
    }

    private static int faultOf(int code, int level, int lacking) {
        if (kindOf(code) == EMPTY) {
            return ENTRY_IS_NONE;
        }
        if (kindOf(code) == LEADS && level == 0) {
            return TOO_DEEP;
        }
        return lacking != 0 ? LACKS_RIGHTS : NO_FAULT;
    }

    private void setMarks(Walk walk, int cell, boolean live) {
        boolean writes = kindOf(codes[cell]) == PAGE && (walk.wants & WRITE) != 0;
        int missing = (writes ? ACCESSED | DIRTY : ACCESSED) & ~marksOf[cell];
        if (live) {
            marksOf[cell] |= missing;
        } else if (walk.hasRead(cell)) {
            // A live walk would have set the mark of this entry at a level above.
            missing = 0;
        }
        if (missing != 0) {
            walk.steps++;
        }
    }

    private void bringToCaches(Walk walk, int cell, int rights) {
        int code = codes[cell];
        boolean isPage = kindOf(code) == PAGE;
        Store store = isPage ? cache : uppers;
        Place place = store.take(walk.tag, walk.level, firstOf(walk.address, walk.level));
        place.target = targetOf(code);
        place.rights = isPage ? rights | rightsOf(code) & GLOBAL : rights;
        place.dirty = isPage && (marksOf[cell] & DIRTY) != 0 ? 1 : 0;
    }

    private void abortWalkersOf(int tag) {
        for (int w = 0; w < WALKERS; w++) {
            if (walkers[w].tag == tag) {
                walkers[w].abort();
            }
        }
    }

    private void forgetTag(int tag) {
        abortWalkersOf(tag);
        cache.dropTag(tag, true);
        uppers.dropTag(tag, true);
    }

    // ---- the way as it is now ----

    private void trace(int space, int address) {
        traced.reset();
        int table = spaces.roots[space];
        if (table == NONE) {
            traced.fault = NO_ROOT;
            return;
        }
        int rights = WANTABLE;
        for (int level = TOP_LEVEL; level >= 0; level--) {
            int cell = cellOf(table, digitOf(address, level));
            int code = codes[cell];
            rights &= rightsOf(code);
            traced.cells[level] = cell;
            traced.together[level] = rights;
            if (kindOf(code) == EMPTY) {
                traced.fault = ENTRY_IS_NONE;
                return;
            }
            if (kindOf(code) == PAGE) {
                traced.end(level, targetOf(code), rights | rightsOf(code) & GLOBAL);
                return;
            }
            table = targetOf(code);
        }
        traced.fault = TOO_DEEP;
    }

    private boolean isStalePage(Place place) {
        int space = spaces.holderOf(place.tag);
        if (space == NONE) {
            return true;
        }
        trace(space, place.first);
        return traced.fault != NO_FAULT || traced.level != place.level
                || traced.frame != place.target || traced.rights != place.rights;
    }

    private boolean isStaleUpper(Place place) {
        int space = spaces.holderOf(place.tag);
        if (space == NONE) {
            return true;
        }
        trace(space, place.first);
        int cell = traced.cells[place.level];
        if (cell == NONE || traced.together[place.level] != place.rights) {
            return true;
        }
        return kindOf(codes[cell]) != LEADS || targetOf(codes[cell]) != place.target;
    }

    // ---- what is permitted ----

    private void gatherPermitted(int space, int address) {
        frames.clear();
        int since = fences.latest(space, address);
        gatherFrames(address, rootsSince(space, since), since, false);
        int tables = 0;
        for (int other = 0; other < SPACES; other++) {
            tables |= rootsSince(other, fences.ofAll);
        }
        gatherFrames(address, tables, fences.ofAll, true);
    }

    /** The tables that were roots of a space since a fence, as bits. */
    private int rootsSince(int space, int since) {
        int tables = bitOf(spaces.roots[space]);
        for (int k = changes.firstSince(since); k < changes.total; k++) {
            if (changes.keyAt(k) == rootKey(space)) {
                tables |= bitOf(changes.beforeAt(k));
            }
        }
        return tables;
    }

    private static int bitOf(int table) {
        return table == NONE ? 0 : 1 << table;
    }

    /**
     * Any mixture of what roots and entries were is a way, so each level needs no more
     * than the set of tables that can be reached there.
     */
    private void gatherFrames(int address, int roots, int since, boolean globalOnly) {
        int tables = roots;
        for (int level = TOP_LEVEL; level >= 0; level--) {
            int below = 0;
            for (int table = 0; table < TABLES; table++) {
                if ((tables & bitOf(table)) != 0) {
                    below |= gatherCell(cellOf(table, digitOf(address, level)), restOf(address, level), since, globalOnly);
                }
            }
            tables = below;
        }
    }

    /** Adds the frames of all pages that a cell was since a fence; answers the tables to which it led, as bits. */
    private int gatherCell(int cell, int rest, int since, boolean globalOnly) {
        int tables = gatherCode(codes[cell], rest, globalOnly);
        for (int k = changes.firstSince(since); k < changes.total; k++) {
            if (changes.keyAt(k) == cell) {
                tables |= gatherCode(changes.beforeAt(k), rest, globalOnly);
            }
        }
        return tables;
    }

    private int gatherCode(int code, int rest, boolean globalOnly) {
        if (kindOf(code) == LEADS) {
            return bitOf(targetOf(code));
        }
        if (kindOf(code) == PAGE && (!globalOnly || (rightsOf(code) & GLOBAL) != 0)) {
            frames.add(targetOf(code) + rest);
        }
        return 0;
    }

    // ---- what is counted ----

    private int stalePages() {
        int found = 0;
        for (int p = 0; p < PLACES; p++) {
            if (cache.places[p].full && isStalePage(cache.places[p])) {
                found++;
            }
        }
        return found;
    }

    private int staleUppers() {
        int found = 0;
        for (int p = 0; p < PLACES; p++) {
            if (uppers.places[p].full && isStaleUpper(uppers.places[p])) {
                found++;
            }
        }
        return found;
    }

    private int entriesMarked(int mark) {
        int found = 0;
        for (int cell = 0; cell < CELLS; cell++) {
            if ((marksOf[cell] & mark) != 0) {
                found++;
            }
        }
        return found;
    }

    private int walkersGoing() {
        int found = 0;
        for (int w = 0; w < WALKERS; w++) {
            if (walkers[w].state == GOING) {
                found++;
            }
        }
        return found;
    }

    /** Roots and tags of the spaces, and which one is current. */
    private static final class Spaces {
        final int[] roots = new int[SPACES];
        final int[] tags = new int[SPACES];
        final int[] ceased = new int[SPACES];
        int clock;
        int now = NONE;

        Spaces() {
            Arrays.fill(roots, NONE);
            Arrays.fill(tags, NONE);
        }

        int tagNow() {
            return now == NONE ? NONE : tags[now];
        }

        int rootNow() {
            return now == NONE ? NONE : roots[now];
        }

        void enter(int space) {
            if (now != NONE && now != space) {
                clock++;
                ceased[now] = clock;
            }
            now = space;
        }

        int holderOf(int tag) {
            for (int space = 0; space < SPACES; space++) {
                if (tags[space] == tag) {
                    return space;
                }
            }
            return NONE;
        }

        int leastFreeTag() {
            for (int tag = 0; tag < TAGS; tag++) {
                if (holderOf(tag) == NONE) {
                    return tag;
                }
            }
            return NONE;
        }

        /** Takes the tag from the space that ceased to be current longest ago. */
        int takeOldestTag() {
            int oldest = NONE;
            for (int space = 0; space < SPACES; space++) {
                boolean holds = tags[space] != NONE && space != now;
                if (holds && (oldest == NONE || ceased[space] < ceased[oldest])) {
                    oldest = space;
                }
            }
            if (oldest == NONE) {
                return NONE;
            }
            int tag = tags[oldest];
            tags[oldest] = NONE;
            return tag;
        }
    }

    /** A place of either cache; its target is a frame or a table. */
    private static final class Place {
        boolean full;
        int tag;
        int level;
        int first;
        int target;
        int rights;
        int dirty;
        int used;

        boolean has(int address) {
            return full && firstOf(address, level) == first;
        }

        boolean isGlobal() {
            return (rights & GLOBAL) != 0;
        }

        boolean serves(int wants) {
            return (wants & ~rights) == 0 && ((wants & WRITE) == 0 || dirty == 1);
        }

        int frameAt(int address) {
            return target + restOf(address, level);
        }

        /** What both caches tell of a place by the same number. */
        int told(int what) {
            switch (what) {
                case 0:
                    return tag;
                case 1:
                    return level;
                case 2:
                    return first;
                case 3:
                    return target;
                default:
                    return rights;
            }
        }
    }

    /** Six places by use. */
    private static final class Store {
        final Place[] places = new Place[PLACES];
        int clock;

        Store() {
            for (int p = 0; p < PLACES; p++) {
                places[p] = new Place();
            }
        }

        Place heldAt(int place) {
            return place >= 0 && place < PLACES && places[place].full ? places[place] : null;
        }

        int held() {
            int found = 0;
            for (int p = 0; p < PLACES; p++) {
                if (places[p].full) {
                    found++;
                }
            }
            return found;
        }

        int usedLaterThan(Place than) {
            int found = 0;
            for (int p = 0; p < PLACES; p++) {
                if (places[p].full && places[p].used > than.used) {
                    found++;
                }
            }
            return found;
        }

        void touch(Place place) {
            clock++;
            place.used = clock;
        }

        Place find(int tag, int level, int first) {
            for (int p = 0; p < PLACES; p++) {
                Place place = places[p];
                if (place.full && place.tag == tag && place.level == level && place.first == first) {
                    return place;
                }
            }
            return null;
        }

        /** The place for what comes, with its name written and used just now. */
        Place take(int tag, int level, int first) {
            Place place = find(tag, level, first);
            if (place == null) {
                place = emptyOrOldest();
            }
            place.full = true;
            place.tag = tag;
            place.level = level;
            place.first = first;
            touch(place);
            return place;
        }

        Place emptyOrOldest() {
            Place oldest = places[0];
            for (int p = 0; p < PLACES; p++) {
                if (!places[p].full) {
                    return places[p];
                }
                if (places[p].used < oldest.used) {
                    oldest = places[p];
                }
            }
            return oldest;
        }

        int dropAddress(int tag, int address) {
            int gone = 0;
            for (int p = 0; p < PLACES; p++) {
                Place place = places[p];
                if (place.has(address) && (place.tag == tag || place.isGlobal())) {
                    place.full = false;
                    gone++;
                }
            }
            return gone;
        }

        int dropTag(int tag, boolean globalToo) {
            int gone = 0;
            for (int p = 0; p < PLACES; p++) {
                Place place = places[p];
                if (place.full && place.tag == tag && (globalToo || !place.isGlobal())) {
                    place.full = false;
                    gone++;
                }
            }
            return gone;
        }

        int dropAll() {
            int gone = held();
            for (int p = 0; p < PLACES; p++) {
                places[p].full = false;
            }
            return gone;
        }
    }

    /** One walk: a walker's, or that of an access. */
    private static final class Walk {
        int state = IDLE;
        int address;
        int wants;
        boolean guess;
        int tag;
        int level;
        int table;
        int rights;
        int steps;
        int result;
        final int[] cells = new int[LEVELS];

        void reset(int newAddress, int newWants, boolean newGuess, int newTag) {
            address = newAddress;
            wants = newWants;
            guess = newGuess;
            tag = newTag;
            steps = 0;
            Arrays.fill(cells, NONE);
        }

        void leadOn(int nextLevel, int nextTable, int together) {
            state = GOING;
            level = nextLevel;
            table = nextTable;
            rights = together;
        }

        void finish(int frame) {
            state = DONE;
            result = frame;
        }

        void fail(int fault) {
            state = FAULTED;
            result = fault;
        }

        void abort() {
            if (state == GOING) {
                state = ABORTED;
            }
        }

        boolean hasRead(int cell) {
            return cells[2] == cell || cells[1] == cell || cells[0] == cell;
        }

        int answer() {
            return state == FAULTED ? FAULT_BASE - result : result;
        }
    }

    /** The way of an address as it is now, by level; its rights are those of a place of the cache. */
    private static final class Way {
        final int[] cells = new int[LEVELS];
        final int[] together = new int[LEVELS];
        int fault;
        int level;
        int frame;
        int rights;

        void reset() {
            Arrays.fill(cells, NONE);
            fault = NO_FAULT;
        }

        void end(int atLevel, int pageFrame, int pageRights) {
            level = atLevel;
            frame = pageFrame;
            rights = pageRights;
        }

        int frameAt(int address) {
            return frame + restOf(address, level);
        }

        boolean comesBy(int cell) {
            return cells[2] == cell || cells[1] == cell || cells[0] == cell;
        }
    }

    /** The latest changes of roots and entries: what was changed, and what it was before. */
    private static final class Changes {
        final int[] keys = new int[REMEMBERED];
        final int[] befores = new int[REMEMBERED];
        int total;

        void note(int key, int before) {
            keys[total % REMEMBERED] = key;
            befores[total % REMEMBERED] = before;
            total++;
        }

        int remembered() {
            return Math.min(total, REMEMBERED);
        }

        int firstSince(int since) {
            return Math.max(since, total - remembered());
        }

        int keyAt(int k) {
            return keys[k % REMEMBERED];
        }

        int beforeAt(int k) {
            return befores[k % REMEMBERED];
        }
    }

    /** When the latest fences were, counted in changes. */
    private static final class Fences {
        final int[] ofSpace = new int[SPACES];
        int ofAll;
        int[] addressKeys = new int[8];
        int[] addressTimes = new int[8];
        int known;

        int indexOf(int key) {
            for (int k = 0; k < known; k++) {
                if (addressKeys[k] == key) {
                    return k;
                }
            }
            return NONE;
        }

        void noteAddress(int space, int address, int time) {
            int key = space * ADDRESSES + address;
            int at = indexOf(key);
            if (at == NONE) {
                // An object is used for no more calls than this.
                if (known >= CALLS) {
                    return;
                }
                if (known == addressKeys.length) {
                    addressKeys = Arrays.copyOf(addressKeys, known * 2);
                    addressTimes = Arrays.copyOf(addressTimes, known * 2);
                }
                at = known;
                known++;
                addressKeys[at] = key;
            }
            addressTimes[at] = time;
        }

        int latest(int space, int address) {
            int at = indexOf(space * ADDRESSES + address);
            int ofAddress = at == NONE ? 0 : addressTimes[at];
            return Math.max(ofAll, Math.max(ofSpace[space], ofAddress));
        }
    }

    /** Frames that addresses can have: a page's frame and what is left of the address. */
    private static final class FrameSet {
        final int[] words = new int[(FRAMES + 63 + 31) / 32];

        void clear() {
            Arrays.fill(words, 0);
        }

        void add(int frame) {
            if (frame >= 0 && frame / 32 < words.length) {
                words[frame / 32] |= 1 << frame % 32;
            }
        }

        boolean has(int frame) {
            return frame >= 0 && frame / 32 < words.length && (words[frame / 32] & 1 << frame % 32) != 0;
        }

        int size() {
            int found = 0;
            for (int w = 0; w < words.length; w++) {
                found += Integer.bitCount(words[w]);
            }
            return found;
        }
    }
}
