import java.util.Arrays;

/** A bell in each tree: what walkers ring, what is heard in the hut, and what a book of pitches tells of them. */
public final class BellTrees {
    public static final int BAD = -1, NOT = -2, FULL = -3, STATE = -5, VOID = -2000000000;

    private static final int NOTHING = -11, OTHER_KIND = -12, NO_PLACE = -13, BELOW_ZERO = -14;
    private static final int PITCH = 0, LOUD = 1, HANGS = 2, THERE = 3, WIND = 4, HEIGHT = 5, SNOW = 6, HUT = 7;
    private static final int FAR = 10, HEARD = 11, WALKS = 12;
    private static final int MOST_TREES = 8, MOST_PATHS = 14, MINUTES = 24, SORTS = 4, SHELVES = 6;
    private static final int SILENT = -1, EVERY_BELL = 255, HOW_MANY = 99, MOST_DRAWN = 30, MOST_YEARS = 30;
    private static final int MOST_TOLD_WALKS = 4;

    private final Forest forest;
    private final Law law;
    private final Sounds sounds;
    private final Sounds otherSounds;
    private final Walks walks;
    private final Changes changes;
    private final Image image;
    private final Bodies bodies;
    private final Shelf[] shelves;

    public BellTrees() {
        forest = new Forest();
        law = new Law();
        sounds = new Sounds(forest, law);
        otherSounds = new Sounds(forest, law);
        walks = new Walks(forest);
        changes = new Changes();
        image = new Image();
        bodies = new Bodies();
        shelves = new Shelf[SHELVES];
        for (int i = 0; i < SHELVES; i++) {
            shelves[i] = new Shelf();
        }
    }

    // ---- trees, paths, walkers

    public int tree(int plh) {
        if (plh < 0 || plh > 999) {
            return BAD;
        }
        return forest.plant(plh / 100, plh / 10 % 10, plh % 10);
    }

    public int trees(int shelf, int i, int n) {
        Shelf from = shelfAt(shelf);
        if (from == null || n < 1 || n > MOST_TREES) {
            return BAD;
        }
        if (from.isEmpty()) {
            return 0;
        }
        if (!from.isBytes()) {
            return OTHER_KIND;
        }
        int came = 0;
        while (came < n && plantFrom(from, i, came)) {
            came++;
        }
        return came;
    }

    public int path(int ab) {
        if (ab < 0) {
            return BAD;
        }
        return forest.join(ab / 10, ab % 10);
    }

    public int mend(int number, int what, int v) {
        if (!forest.isSlot(what, number) || !forest.mayBe(what, v)) {
            return BAD;
        }
        int was = forest.get(what, number);
        // What becomes what it was already is no CHANGE: nothing is kept of it, and what was UNDONE can be DONE AGAIN.
        if (was != v) {
            forest.set(what, number, v);
            changes.add(what, number, was, v);
        }
        return was;
    }

    public int of(int number, int what) {
        if (what == FAR) {
            return forest.has(number) ? forest.farOf(number) : BAD;
        }
        if (what == HEARD) {
            return forest.has(number) ? forest.heardOf(number) : BAD;
        }
        if (what == WALKS) {
            return number == 0 ? forest.walked() : BAD;
        }
        return forest.isSlot(what, number) ? forest.get(what, number) : BAD;
    }

    public int feed(int letter) {
        if (letter < 0 || letter > 255) {
            return BAD;
        }
        return law.take(letter);
    }

    public int law() {
        return law.read();
    }

    public int sound(int sort, int tree, int minute) {
        if (!isSort(sort) || !forest.has(tree) || !isMinute(minute)) {
            return VOID;
        }
        sounds.fill(sort);
        return sounds.at(tree, minute);
    }

    // ---- walks that fit

    public int fits(int shelf, int sm) {
        Shelf book = shelfAt(shelf);
        boolean howMany = sm % 100 == HOW_MANY;
        int refusal = bookRefusal(book, sm, howMany);
        if (refusal != 0 || book == null) {
            return refusal;
        }
        sounds.fill(sm / 100);
        int fitting = walks.countFitting(sounds, book);
        return howMany ? fitting : walks.firstAt(sm % 100);
    }

    public int canBe(int shelf, int sm) {
        Shelf book = shelfAt(shelf);
        int refusal = bookRefusal(book, sm, false);
        if (refusal != 0 || book == null) {
            return refusal;
        }
        sounds.fill(sm / 100);
        walks.countFitting(sounds, book);
        int bits = walks.possibleAt(sm % 100);
        return bits == 0 ? NOT : bits;
    }

    public int twoAtOnce(int shelf, int kk, int what) {
        Shelf book = shelfAt(shelf);
        if (book == null || !isPair(kk, SORTS) || what < 0 || what > 1) {
            return BAD;
        }
        int refusal = rowsRefusal(1 << shelf);
        if (refusal != 0) {
            return refusal;
        }
        sounds.fill(kk / 10);
        otherSounds.fill(kk % 10);
        int first = NOT;
        int many = 0;
        for (int m = 0; m < book.minutes(); m++) {
            if (!sounds.anywhere(book.at(m), m) && otherSounds.anywhere(book.at(m), m)) {
                first = many == 0 ? m : first;
                many++;
            }
        }
        return what == 0 ? many : first;
    }

    public int least(int sft, int ab, int at) {
        int from = sft / 10 % 10;
        int to = sft % 10;
        if (sft < 0 || !isSort(sft / 100) || !forest.has(from) || !forest.has(to)) {
            return BAD;
        }
        int a = ab / 100;
        int b = ab % 100;
        if (ab < 0 || !isMinute(a) || !isMinute(b) || b < a) {
            return BAD;
        }
        if (at != -1 && (at < a || at > b)) {
            return BAD;
        }
        sounds.fill(sft / 100);
        walks.measure(sounds, to, a, b);
        int fewest = walks.fewestFrom(from, a);
        if (fewest == NOT || at == -1) {
            return fewest;
        }
        return walks.quietAt(from, a, at);
    }

    public int gone(int sort, int wb) {
        int refusal = walkAndBookRefusal(sort, wb);
        if (refusal != 0) {
            return refusal;
        }
        sounds.fill(sort);
        return bellsGone(shelfAt(wb / 10), shelfAt(wb % 10));
    }

    public int apart(int kk, int ww) {
        if (!isPair(kk, SORTS) || !isPair(ww, SHELVES)) {
            return BAD;
        }
        int both = 1 << ww / 10 | 1 << ww % 10;
        int refusal = walksRefusal(both);
        if (refusal != 0) {
            return refusal;
        }
        sounds.fill(kk / 10);
        otherSounds.fill(kk % 10);
        return firstUnlike(shelfAt(ww / 10), shelfAt(ww % 10), otherSounds, EVERY_BELL);
    }

    public int enough(int sort, int n) {
        if (!isSort(sort) || n < 1 || n > MOST_TOLD_WALKS) {
            return BAD;
        }
        int refusal = walksRefusal((1 << n) - 1);
        if (refusal != 0) {
            return refusal;
        }
        sounds.fill(sort);
        int there = forest.bellsThere();
        int best = NOT;
        int fewest = MOST_TREES + 1;
        for (int bells = 1; bells <= there; bells++) {
            int many = Integer.bitCount(bells);
            if ((bells & ~there) == 0 && many < fewest && areTold(n, bells)) {
                best = bells;
                fewest = many;
            }
        }
        return best;
    }

    public int tuned(int what) {
        if (what < 0 || what > 1) {
            return BAD;
        }
        int bits = forest.fewestToTune();
        return what == 0 ? Integer.bitCount(bits) : bits;
    }

    // ---- walkers, years

    public int drawn(int seed, int kn, int what) {
        int n = kn % 100;
        if (kn < 0 || !isSort(kn / 100) || n < 1 || n > MOST_DRAWN) {
            return BAD;
        }
        if (what < -2 || what >= 0 && !forest.has(what)) {
            return BAD;
        }
        if (forest.size() == 0) {
            return STATE;
        }
        sounds.fill(kn / 100);
        return drawWalkers(seed, n, what);
    }

    public int years(int seed, int n) {
        if (n < 1 || n > MOST_YEARS) {
            return BAD;
        }
        return forest.grow(seed, n);
    }

    public int walk(int sort, int shelf) {
        Shelf walked = shelfAt(shelf);
        if (!isSort(sort) || walked == null) {
            return BAD;
        }
        int refusal = walksRefusal(1 << shelf);
        if (refusal != 0) {
            return refusal;
        }
        sounds.fill(sort);
        int minutes = 0;
        for (int m = 0; m < walked.minutes(); m++) {
            if (sounds.at(walked.at(m), m) != SILENT) {
                forest.addHeard(walked.at(m));
                minutes++;
            }
        }
        forest.addWalk();
        return minutes;
    }

    public int judge(int sort, int wb) {
        int refusal = walkAndBookRefusal(sort, wb);
        if (refusal != 0) {
            return refusal;
        }
        sounds.fill(sort);
        return firstNotSo(shelfAt(wb / 10), shelfAt(wb % 10), EVERY_BELL);
    }

    public int image() {
        return image.draw(forest);
    }

    public int back() {
        return image.lay(forest);
    }

    public int undo() {
        return changes.revert(forest);
    }

    public int redo() {
        return changes.repeat(forest);
    }

    // ---- acts, shelves

    public int body(int kind) {
        return bodies.add(kind);
    }

    public int act(int body, int act, int x) {
        return bodies.perform(body, act, x);
    }

    public int trace(int i) {
        return bodies.traced(i);
    }

    public int keep(int shelf, int body) {
        Shelf on = shelfAt(shelf);
        if (on == null || body < -1 || body >= bodies.size()) {
            return BAD;
        }
        on.holdBody(body);
        return 1;
    }

    public int row(int shelf, int sort, int n) {
        Shelf on = shelfAt(shelf);
        if (on == null || sort < 0 || sort >= Shelf.ROW_SORTS || n > Shelf.MOST_ELEMENTS) {
            return BAD;
        }
        if (n < 0) {
            return BELOW_ZERO;
        }
        on.holdRow(sort, n);
        return 1;
    }

    public int put(int shelf, int i, long v) {
        Shelf on = shelfAt(shelf);
        int refusal = placeRefusal(on, i);
        if (refusal != 0 || on == null) {
            return refusal;
        }
        on.write(i, v);
        return 1;
    }

    public long element(int shelf, int i) {
        Shelf on = shelfAt(shelf);
        if (placeRefusal(on, i) != 0 || on == null) {
            return Long.MIN_VALUE;
        }
        return on.read(i);
    }

    public int shift(int shelf, int i, int other, int j, int n) {
        Shelf from = shelfAt(shelf);
        Shelf to = shelfAt(other);
        if (from == null || to == null) {
            return BAD;
        }
        if (from.isEmpty() || to.isEmpty()) {
            return NOTHING;
        }
        if (!from.isRow() || !to.isRow() || !from.isOfSortOf(to)) {
            return OTHER_KIND;
        }
        if (!from.hasPlaces(i, n) || !to.hasPlaces(j, n)) {
            return NO_PLACE;
        }
        from.copy(i, to, j, n);
        return n;
    }

    public int taken(int shelf, int k) {
        Shelf on = shelfAt(shelf);
        if (on == null || !bodies.isKind(k)) {
            return BAD;
        }
        if (on.isEmpty()) {
            return NOTHING;
        }
        int kind = on.isRow() ? -1 : bodies.kindOf(on.bodyHeld());
        return bodies.isUnder(kind, k) ? kind : OTHER_KIND;
    }

    public int count(int what) {
        switch (what) {
            case 0:
                return forest.size();
            case 1:
                return forest.joined();
            case 2:
                return law.bytes();
            case 3:
                return changes.revertible();
            case 4:
                return bodies.size();
            case 5:
                return bodies.latestRuns();
            default:
                return BAD;
        }
    }

    // ---- what the calls share

    private static boolean isSort(int sort) {
        return sort >= 0 && sort < SORTS;
    }

    private static boolean isMinute(int minute) {
        return minute >= 0 && minute < MINUTES;
    }

    /** Whether both digits of a number are below a bound. */
    private static boolean isPair(int number, int bound) {
        return number >= 0 && number / 10 < bound && number % 10 < bound;
    }

    /** The next z of the walkers' and the years' draws. */
    private static int nextDraw(int z) {
        return z * 1103515245 + 12345;
    }

    private Shelf shelfAt(int shelf) {
        return shelf >= 0 && shelf < shelves.length ? shelves[shelf] : null;
    }

    private boolean plantFrom(Shelf from, int i, int came) {
        // Tested ahead of the sum, so that a high i cannot make it wrap.
        if (!from.hasPlaces(i, 3)) {
            return false;
        }
        int place = i + 3 * came;
        if (!from.hasPlaces(place, 3)) {
            return false;
        }
        int pitch = from.at(place);
        int loud = from.at(place + 1);
        int hangs = from.at(place + 2);
        if (!forest.mayBe(PITCH, pitch) || !forest.mayBe(LOUD, loud) || !forest.mayBe(HANGS, hangs)) {
            return false;
        }
        return forest.plant(pitch, loud, hangs) >= 0;
    }

    private int bookRefusal(Shelf book, int sm, boolean howMany) {
        int minute = sm % 100;
        if (book == null || sm < 0 || !isSort(sm / 100) || !howMany && !isMinute(minute)) {
            return BAD;
        }
        if (book.isEmpty()) {
            return NOTHING;
        }
        if (!book.isBytes()) {
            return OTHER_KIND;
        }
        return howMany || minute < book.minutes() ? 0 : BAD;
    }

    /** Why not all SHELVES of these bits hold ROWS of bytes; 0: they do. */
    private int rowsRefusal(int bits) {
        int refusal = 0;
        for (int i = 0; i < SHELVES; i++) {
            Shelf on = shelfAt(i);
            if (on == null || (bits >> i & 1) == 0) {
                continue;
            }
            if (on.isEmpty()) {
                return NOTHING;
            }
            if (!on.isBytes()) {
                refusal = OTHER_KIND;
            }
        }
        return refusal;
    }

    /** Why not all SHELVES of these bits hold WALKS; 0: they do. */
    private int walksRefusal(int bits) {
        int refusal = rowsRefusal(bits);
        for (int i = 0; i < SHELVES && refusal == 0; i++) {
            if ((bits >> i & 1) != 0 && !isWalk(shelfAt(i))) {
                refusal = STATE;
            }
        }
        return refusal;
    }

    private int walkAndBookRefusal(int sort, int wb) {
        if (!isSort(sort) || !isPair(wb, SHELVES)) {
            return BAD;
        }
        int refusal = rowsRefusal(1 << wb / 10 | 1 << wb % 10);
        return refusal != 0 ? refusal : walksRefusal(1 << wb / 10);
    }

    private int placeRefusal(Shelf on, int i) {
        if (on == null) {
            return BAD;
        }
        if (on.isEmpty()) {
            return NOTHING;
        }
        if (!on.isRow()) {
            return OTHER_KIND;
        }
        return on.hasPlaces(i, 1) ? 0 : NO_PLACE;
    }

    private boolean isWalk(Shelf walked) {
        if (walked == null) {
            return false;
        }
        int open = forest.all();
        for (int m = 0; m < walked.minutes(); m++) {
            int tree = walked.at(m);
            if (!forest.has(tree) || (open >> tree & 1) == 0) {
                return false;
            }
            open = forest.around(tree);
        }
        return true;
    }

    private int bellsGone(Shelf walked, Shelf book) {
        if (walked == null || book == null) {
            return NOT;
        }
        int both = Math.min(walked.minutes(), book.minutes());
        int gone = 0;
        for (int m = 0; m < both; m++) {
            if (sounds.at(walked.at(m), m) != book.at(m)) {
                gone |= 1 << walked.at(m);
            }
        }
        // A bell that is gone is silent in every MINUTE, so the BOOK must have nothing wherever its TREE is walked.
        return firstNotSo(walked, book, EVERY_BELL & ~gone) == NOT ? gone : NOT;
    }

    /** The first MINUTE in which a WALK among these bells (bits) alone has not the SOUND of the BOOK. */
    private int firstNotSo(Shelf walked, Shelf book, int bells) {
        if (walked == null || book == null) {
            return NOT;
        }
        int both = Math.min(walked.minutes(), book.minutes());
        for (int m = 0; m < both; m++) {
            if (sounds.among(bells, walked.at(m), m) != book.at(m)) {
                return m;
            }
        }
        return NOT;
    }

    /** The first MINUTE in which two WALKS are unlike, the one by the first sounds, the other by those told. */
    private int firstUnlike(Shelf one, Shelf other, Sounds ofOther, int bells) {
        if (one == null || other == null || ofOther == null) {
            return NOT;
        }
        int both = Math.min(one.minutes(), other.minutes());
        for (int m = 0; m < both; m++) {
            if (sounds.among(bells, one.at(m), m) != ofOther.among(bells, other.at(m), m)) {
                return m;
            }
        }
        return NOT;
    }

    private boolean areTold(int n, int bells) {
        for (int a = 0; a < n; a++) {
            if (!hasSound(shelfAt(a), bells)) {
                return false;
            }
        }
        for (int a = 0; a < n; a++) {
            for (int b = 0; b < a; b++) {
                if (firstUnlike(shelfAt(a), shelfAt(b), sounds, bells) == NOT) {
                    return false;
                }
            }
        }
        return true;
    }

    private boolean hasSound(Shelf walked, int bells) {
        if (walked == null) {
            return false;
        }
        for (int m = 0; m < walked.minutes(); m++) {
            if (sounds.among(bells, walked.at(m), m) != SILENT) {
                return true;
            }
        }
        return false;
    }

    private int drawWalkers(int seed, int n, int what) {
        int z = seed;
        int together = 0;
        int without = 0;
        int atTree = 0;
        for (int walker = 0; walker < n; walker++) {
            int own = 0;
            int tree = 0;
            for (int m = 0; m < MINUTES; m++) {
                z = nextDraw(z);
                tree = m == 0 ? forest.treeDrawn(z >>> 8) : forest.stepDrawn(tree, z >>> 8);
                if (sounds.at(tree, m) != SILENT) {
                    own++;
                    atTree += tree == what ? 1 : 0;
                }
            }
            together += own;
            without += own == 0 ? 1 : 0;
        }
        if (what == -1) {
            return together;
        }
        return what == -2 ? without : atTree;
    }

    /** TREES, PATHS, WIND, SNOW, THE HUT and the SORTS, and how often each TREE was HEARD. */
    private static final class Forest {
        private static final int[] MOST = {9, 9, 9, 1, 9, 9, 9, 7};
        private static final int NO_WAY = 9;

        // By what mend() names them: one row for each, by the number.
        private final int[][] value = new int[MOST.length][MINUTES];
        private final int[] near = new int[MOST_TREES];
        private final int[] far = new int[MOST_TREES];
        private final int[] heard = new int[MOST_TREES];
        private int treesThere;
        private int pathsThere;
        private int walksMade;

        Forest() {
            Arrays.fill(value[WIND], 2);
            Arrays.fill(value[HEIGHT], 5);
        }

        int size() {
            return treesThere;
        }

        int joined() {
            return pathsThere;
        }

        int walked() {
            return walksMade;
        }

        boolean has(int tree) {
            return tree >= 0 && tree < treesThere;
        }

        int all() {
            return (1 << treesThere) - 1;
        }

        boolean isSlot(int what, int number) {
            return number >= 0 && number < slots(what);
        }

        private int slots(int what) {
            switch (what) {
                case PITCH:
                case LOUD:
                case HANGS:
                case THERE:
                    return treesThere;
                case WIND:
                    return MINUTES;
                case HEIGHT:
                    return SORTS;
                case SNOW:
                case HUT:
                    return 1;
                default:
                    return 0;
            }
        }

        boolean mayBe(int what, int v) {
            return what >= 0 && what < MOST.length && v >= 0 && v <= MOST[what];
        }

        int get(int what, int number) {
            return isSlot(what, number) ? value[what][number] : 0;
        }

        void set(int what, int number, int v) {
            if (isSlot(what, number)) {
                value[what][number] = v;
            }
        }

        int plant(int pitch, int loud, int hangs) {
            if (treesThere >= MOST_TREES) {
                return FULL;
            }
            int tree = treesThere;
            treesThere++;
            set(PITCH, tree, pitch);
            set(LOUD, tree, loud);
            set(HANGS, tree, hangs);
            set(THERE, tree, 1);
            return tree;
        }

        int join(int a, int b) {
            if (!has(a) || !has(b) || a == b || (near[a] >> b & 1) != 0) {
                return BAD;
            }
            if (pathsThere >= MOST_PATHS) {
                return FULL;
            }
            near[a] |= 1 << b;
            near[b] |= 1 << a;
            pathsThere++;
            return pathsThere;
        }

        /** The TREES (bits) at which one can be a MINUTE later. */
        int around(int tree) {
            return has(tree) ? near[tree] | 1 << tree : 0;
        }

        int heardOf(int tree) {
            return has(tree) ? heard[tree] : 0;
        }

        void setHeard(int tree, int times) {
            if (has(tree)) {
                heard[tree] = times;
            }
        }

        void addHeard(int tree) {
            setHeard(tree, heardOf(tree) + 1);
        }

        void setWalked(int many) {
            walksMade = many;
        }

        void addWalk() {
            walksMade++;
        }

        int farOf(int tree) {
            measureFar();
            return farMeasured(tree);
        }

        int farMeasured(int tree) {
            return has(tree) ? far[tree] : NO_WAY;
        }

        void measureFar() {
            Arrays.fill(far, NO_WAY);
            int hut = get(HUT, 0);
            int edge = has(hut) ? 1 << hut : 0;
            int reached = edge;
            for (int steps = 0; steps < MOST_TREES && edge != 0; steps++) {
                int next = 0;
                for (int t = 0; t < treesThere; t++) {
                    if ((edge >> t & 1) != 0) {
                        far[t] = steps;
                        next |= near[t];
                    }
                }
                edge = next & ~reached;
                reached |= edge;
            }
        }

        boolean rings(int sort, int tree) {
            return get(THERE, tree) == 1 && get(HANGS, tree) <= get(HEIGHT, sort);
        }

        int bellsThere() {
            int bits = 0;
            for (int t = 0; t < treesThere; t++) {
                bits |= get(THERE, t) << t;
            }
            return bits;
        }

        /** Of ten PITCHES one is always left for a TREE among eight, so each clash needs just one of its two TREES. */
        int fewestToTune() {
            int best = all();
            for (int bits = 0; bits <= all(); bits++) {
                if (Integer.bitCount(bits) < Integer.bitCount(best) && isUnlikeWithout(bits)) {
                    best = bits;
                }
            }
            return best;
        }

        private boolean isUnlikeWithout(int bits) {
            for (int t = 0; t < treesThere; t++) {
                for (int u = 0; u < t; u++) {
                    boolean both = (bits >> t & 1) == 0 && (bits >> u & 1) == 0;
                    if (both && (near[t] >> u & 1) != 0 && get(PITCH, t) == get(PITCH, u)) {
                        return false;
                    }
                }
            }
            return true;
        }

        int treeDrawn(int draw) {
            return treesThere > 0 ? draw % treesThere : 0;
        }

        int stepDrawn(int tree, int draw) {
            if (!has(tree)) {
                return tree;
            }
            int lot = draw % (Integer.bitCount(near[tree]) + 1);
            for (int t = 0; t < treesThere; t++) {
                if ((near[tree] >> t & 1) != 0) {
                    lot--;
                    if (lot == 0) {
                        return t;
                    }
                }
            }
            return tree;
        }

        int grow(int seed, int years) {
            int z = seed;
            for (int year = 0; year < years; year++) {
                for (int t = 0; t < treesThere; t++) {
                    z = nextDraw(z);
                    int lot = (z >>> 8) % 12;
                    if (lot == 0) {
                        set(PITCH, t, Math.max(0, get(PITCH, t) - 1));
                    } else if (lot == 11) {
                        set(HANGS, t, Math.min(MOST[HANGS], get(HANGS, t) + 1));
                    }
                }
            }
            int sum = 0;
            for (int t = 0; t < treesThere; t++) {
                sum += get(PITCH, t);
            }
            return sum;
        }
    }

    /** THE TAPE and THE LAW: a row of signs, each worked out on the values that the ones ahead of it left. */
    private static final class Law {
        private static final int MOST_BYTES = 120, MOST_OPEN = 6, MOST_DIGITS = 4, ROOM = 128;
        private static final int OPERANDS = 5, COMPARED = 2;
        private static final int NEGATE = '~', ASK = '?', END = ';', NO_BYTE = -1;

        private final int[] tape = new int[MOST_BYTES];
        private final int[] draft = new int[ROOM];
        private final int[] signs = new int[ROOM];
        private final int[] stack = new int[ROOM];
        private int fed;
        private int at;
        private int drafted;
        private int length;
        private int top;
        private int loud;
        private int far;
        private int wind;
        private int pitch;
        private int snow;
        private int sort;

        int bytes() {
            return fed;
        }

        int take(int letter) {
            if (fed >= MOST_BYTES) {
                return FULL;
            }
            tape[fed] = letter;
            fed++;
            return fed;
        }

        int read() {
            at = 0;
            drafted = 0;
            boolean right = readLines();
            fed = 0;
            if (!right) {
                return -100 - at;
            }
            System.arraycopy(draft, 0, signs, 0, drafted);
            length = drafted;
            return 1;
        }

        private int next() {
            return at < fed && at < tape.length ? tape[at] : NO_BYTE;
        }

        /** Numbers stand as they are, other signs below 0. */
        private void note(int code) {
            if (drafted < draft.length) {
                draft[drafted] = code;
                drafted++;
            }
        }

        private boolean readLines() {
            for (int line = 0; line <= MOST_BYTES; line++) {
                if (!readLine()) {
                    return false;
                }
                note(-END);
                if (next() != ';') {
                    return next() == NO_BYTE;
                }
                at++;
            }
            return false;
        }

        private boolean readLine() {
            if (!readLevel(0, 0)) {
                return false;
            }
            if (next() != '?') {
                return true;
            }
            at++;
            note(-ASK);
            return readLevel(0, 0);
        }

        private static int levelOf(int sign) {
            switch (sign) {
                case '|':
                    return 0;
                case '&':
                    return 1;
                case '<':
                case '=':
                case '>':
                    return COMPARED;
                case '+':
                case '-':
                    return 3;
                case '*':
                case '/':
                case '%':
                    return 4;
                default:
                    return -1;
            }
        }

        /** E, A, B, S and P are the levels 0 .. 4: each is made of the next one and of its own signs between. */
        private boolean readLevel(int level, int open) {
            if (level >= OPERANDS) {
                return readOperand(open);
            }
            if (!readLevel(level + 1, open)) {
                return false;
            }
            int most = level == COMPARED ? 1 : MOST_BYTES;
            for (int more = 0; more < most && levelOf(next()) == level; more++) {
                int sign = next();
                at++;
                if (!readLevel(level + 1, open)) {
                    return false;
                }
                note(-sign);
            }
            return true;
        }

        private boolean readOperand(int open) {
            int sign = next();
            if (sign >= '0' && sign <= '9') {
                readNumber();
                return true;
            }
            if (isName(sign)) {
                at++;
                note(-sign);
                return true;
            }
            if (sign != '(' && sign != '!' && sign != '-' || open >= MOST_OPEN) {
                return false;
            }
            at++;
            if (sign == '(') {
                return readLevel(0, open + 1) && readClosing();
            }
            if (!readOperand(open + 1)) {
                return false;
            }
            note(sign == '-' ? -NEGATE : -sign);
            return true;
        }

        private boolean readClosing() {
            if (next() != ')') {
                return false;
            }
            at++;
            return true;
        }

        private void readNumber() {
            int number = 0;
            for (int digit = 0; digit < MOST_DIGITS && next() >= '0' && next() <= '9'; digit++) {
                number = number * 10 + next() - '0';
                at++;
            }
            note(number);
        }

        private static boolean isName(int sign) {
            return sign == 'l' || sign == 'd' || sign == 'w' || sign == 'p' || sign == 's' || sign == 'k';
        }

        /** What the LAW is asked for next; the other two names are told to hears(). */
        void ask(int ofLoud, int ofFar, int ofPitch, int ofSnow, int ofSort) {
            loud = ofLoud;
            far = ofFar;
            pitch = ofPitch;
            snow = ofSnow;
            sort = ofSort;
        }

        boolean hears(int ofWind) {
            wind = ofWind;
            if (length == 0) {
                return loud > far + wind / 2 + snow;
            }
            return workOut() != 0;
        }

        private int workOut() {
            boolean passed = false;
            top = 0;
            for (int i = 0; i < length && i < signs.length; i++) {
                int sign = -signs[i];
                if (passed) {
                    passed = sign != END;
                } else if (sign == END) {
                    return pop();
                } else if (sign == ASK) {
                    passed = pop() == 0;
                } else {
                    push(valueBy(signs[i]));
                }
            }
            return 0;
        }

        private int valueBy(int code) {
            if (code >= 0) {
                return code;
            }
            if (isName(-code)) {
                return named(-code);
            }
            int last = pop();
            if (-code == NEGATE) {
                return -last;
            }
            if (-code == '!') {
                return last == 0 ? 1 : 0;
            }
            return joined(-code, pop(), last);
        }

        private int named(int sign) {
            switch (sign) {
                case 'l':
                    return loud;
                case 'd':
                    return far;
                case 'w':
                    return wind;
                case 'p':
                    return pitch;
                case 's':
                    return snow;
                default:
                    return sort;
            }
        }

        private static int joined(int sign, int a, int b) {
            switch (sign) {
                case '|':
                    return a != 0 || b != 0 ? 1 : 0;
                case '&':
                    return a != 0 && b != 0 ? 1 : 0;
                case '<':
                    return a < b ? 1 : 0;
                case '=':
                    return a == b ? 1 : 0;
                case '>':
                    return a > b ? 1 : 0;
                case '+':
                    return a + b;
                case '-':
                    return a - b;
                case '*':
                    return a * b;
                case '/':
                    return b == 0 ? 0 : a / b;
                default:
                    return b == 0 ? 0 : a % b;
            }
        }

        private void push(int v) {
            if (top >= 0 && top < stack.length) {
                stack[top] = v;
                top++;
            }
        }

        private int pop() {
            if (top <= 0 || top > stack.length) {
                return 0;
            }
            top--;
            return stack[top];
        }
    }

    /** The SOUND of one SORT at every TREE in every MINUTE, as things stood when it was filled. */
    private static final class Sounds {
        private static final int WINDS = 10, UNKNOWN = -1;

        private final Forest forest;
        private final Law law;
        private final int[][] sound = new int[MOST_TREES][MINUTES];
        private final int[] heardIn = new int[WINDS];

        Sounds(Forest forest, Law law) {
            this.forest = forest;
            this.law = law;
        }

        void fill(int sort) {
            int snow = forest.get(SNOW, 0);
            forest.measureFar();
            for (int t = 0; t < MOST_TREES; t++) {
                boolean rings = forest.has(t) && forest.rings(sort, t);
                int pitch = forest.get(PITCH, t);
                law.ask(forest.get(LOUD, t), forest.farMeasured(t), pitch, snow, sort);
                Arrays.fill(heardIn, UNKNOWN);
                for (int m = 0; m < MINUTES; m++) {
                    sound[t][m] = rings && isHeard(forest.get(WIND, m)) ? pitch : SILENT;
                }
            }
        }

        // Only the WIND is another one from MINUTE to MINUTE, so THE LAW is worked out once for each WIND.
        private boolean isHeard(int wind) {
            if (wind < 0 || wind >= WINDS) {
                return false;
            }
            if (heardIn[wind] == UNKNOWN) {
                heardIn[wind] = law.hears(wind) ? 1 : 0;
            }
            return heardIn[wind] == 1;
        }

        int at(int tree, int minute) {
            return forest.has(tree) && isMinute(minute) ? sound[tree][minute] : SILENT;
        }

        /** The SOUND if there were these bells (bits) alone. */
        int among(int bells, int tree, int minute) {
            return (bells >> tree & 1) != 0 ? at(tree, minute) : SILENT;
        }

        boolean anywhere(int wanted, int minute) {
            for (int t = 0; t < forest.size(); t++) {
                if (at(t, minute) == wanted) {
                    return true;
                }
            }
            return false;
        }
    }

    /** All WALKS at once: for each MINUTE and TREE what can still come from there on. */
    private static final class Walks {
        private static final int MOST_TOLD = 999999999, NEVER = 1000;

        private final Forest forest;
        private final int[][] onward = new int[MINUTES][MOST_TREES];

        Walks(Forest forest) {
            this.forest = forest;
        }

        /** From then on, onward tells how many WALKS fit the rest of the BOOK. */
        int countFitting(Sounds sounds, Shelf book) {
            int minutes = book.minutes();
            for (int m = minutes - 1; m >= 0; m--) {
                for (int t = 0; t < forest.size(); t++) {
                    boolean fitting = sounds.at(t, m) == book.at(m);
                    int ways = m == minutes - 1 ? 1 : ways(m + 1, forest.around(t));
                    onward[m][t] = fitting ? ways : 0;
                }
            }
            return minutes == 0 ? 1 : ways(0, forest.all());
        }

        private int ways(int minute, int open) {
            int ways = 0;
            for (int t = 0; t < MOST_TREES; t++) {
                if ((open >> t & 1) != 0) {
                    ways = Math.min(MOST_TOLD, ways + onwardAt(minute, t));
                }
            }
            return ways;
        }

        private int onwardAt(int minute, int tree) {
            return isMinute(minute) && forest.has(tree) ? onward[minute][tree] : 0;
        }

        int firstAt(int minute) {
            int tree = NOT;
            int open = forest.all();
            for (int m = 0; m <= minute && m < MINUTES; m++) {
                open = fittingOf(m, open);
                if (open == 0) {
                    return NOT;
                }
                tree = lowestOf(open);
                open = forest.around(tree);
            }
            return tree;
        }

        private static int lowestOf(int bits) {
            for (int t = 0; t < MOST_TREES; t++) {
                if ((bits >> t & 1) != 0) {
                    return t;
                }
            }
            return NOT;
        }

        int possibleAt(int minute) {
            int open = fittingOf(0, forest.all());
            for (int m = 1; m <= minute && m < MINUTES; m++) {
                int next = 0;
                for (int t = 0; t < MOST_TREES; t++) {
                    if ((open >> t & 1) != 0) {
                        next |= forest.around(t);
                    }
                }
                open = fittingOf(m, next);
            }
            return open;
        }

        private int fittingOf(int minute, int open) {
            int bits = 0;
            for (int t = 0; t < MOST_TREES; t++) {
                if ((open >> t & 1) != 0 && onwardAt(minute, t) > 0) {
                    bits |= 1 << t;
                }
            }
            return bits;
        }

        /** From then on, onward tells the fewest MINUTES with a SOUND till the TREE is reached in MINUTE b. */
        void measure(Sounds sounds, int to, int a, int b) {
            for (int m = Math.min(b, MINUTES - 1); m >= a && m >= 0; m--) {
                for (int t = 0; t < forest.size(); t++) {
                    int later = t == to ? 0 : NEVER;
                    if (m < b) {
                        later = onwardAt(m + 1, quietest(m + 1, forest.around(t)));
                    }
                    int now = sounds.at(t, m) == SILENT ? 0 : 1;
                    onward[m][t] = later == NEVER ? NEVER : later + now;
                }
            }
        }

        private int quietest(int minute, int open) {
            int best = -1;
            for (int t = 0; t < MOST_TREES; t++) {
                boolean may = (open >> t & 1) != 0;
                if (may && (best < 0 || onwardAt(minute, t) < onwardAt(minute, best))) {
                    best = t;
                }
            }
            return best;
        }

        int fewestFrom(int tree, int minute) {
            int fewest = onwardAt(minute, tree);
            return fewest == NEVER ? NOT : fewest;
        }

        int quietAt(int from, int a, int minute) {
            int tree = from;
            for (int m = a + 1; m <= minute && m < MINUTES; m++) {
                tree = quietest(m, forest.around(tree));
            }
            return tree;
        }
    }

    /** The latest changes by mend(), for undo() and redo(). */
    private static final class Changes {
        private static final int MOST_KEPT = 40;

        private final int[] what = new int[MOST_KEPT];
        private final int[] number = new int[MOST_KEPT];
        private final int[] was = new int[MOST_KEPT];
        private final int[] became = new int[MOST_KEPT];
        private int done;
        private int kept;

        int revertible() {
            return done;
        }

        void add(int ofWhat, int ofNumber, int before, int after) {
            if (done >= MOST_KEPT) {
                dropOldest();
            }
            what[done] = ofWhat;
            number[done] = ofNumber;
            was[done] = before;
            became[done] = after;
            done++;
            kept = done;
        }

        private void dropOldest() {
            System.arraycopy(what, 1, what, 0, MOST_KEPT - 1);
            System.arraycopy(number, 1, number, 0, MOST_KEPT - 1);
            System.arraycopy(was, 1, was, 0, MOST_KEPT - 1);
            System.arraycopy(became, 1, became, 0, MOST_KEPT - 1);
            done = MOST_KEPT - 1;
        }

        int revert(Forest forest) {
            if (done <= 0) {
                return STATE;
            }
            done--;
            forest.set(what[done], number[done], was[done]);
            return done;
        }

        int repeat(Forest forest) {
            if (done >= kept || done >= MOST_KEPT) {
                return STATE;
            }
            forest.set(what[done], number[done], became[done]);
            done++;
            return kept - done;
        }
    }

    /** What image() keeps of the forest, and back() lays back. */
    private static final class Image {
        private final int[] pitch = new int[MOST_TREES];
        private final int[] hangs = new int[MOST_TREES];
        private final int[] there = new int[MOST_TREES];
        private final int[] heard = new int[MOST_TREES];
        private boolean stands;
        private int treesKnown;
        private int walksKnown;

        int draw(Forest forest) {
            stands = true;
            treesKnown = forest.size();
            walksKnown = forest.walked();
            for (int t = 0; t < MOST_TREES; t++) {
                pitch[t] = forest.get(PITCH, t);
                hangs[t] = forest.get(HANGS, t);
                there[t] = forest.get(THERE, t);
                heard[t] = forest.heardOf(t);
            }
            return treesKnown;
        }

        int lay(Forest forest) {
            if (!stands) {
                return STATE;
            }
            for (int t = 0; t < MOST_TREES; t++) {
                if (t < treesKnown) {
                    forest.set(PITCH, t, pitch[t]);
                    forest.set(HANGS, t, hangs[t]);
                    forest.set(THERE, t, there[t]);
                }
                forest.setHeard(t, t < treesKnown ? heard[t] : 0);
            }
            forest.setWalked(walksKnown);
            return treesKnown;
        }
    }

    /** The BODIES, their KINDS, and THE TRACE of the latest act. */
    private static final class Bodies {
        private static final int MOST_BODIES = 50, MOST_TRACED = 24, KINDS = 8, ACTS = 4, DEEPEST = 40;
        private static final int RINGS = 0, BRUSHES = 1, HEARS = 2, WRITES = 3;
        // By KIND; -1: there is none above.
        private static final int[] ABOVE = {-1, 0, 0, 2, 1, 3, 0, 6};
        // By KIND and ACT: the number of the body that the KIND itself has, 0: none.
        private static final int[] OWN = {
            1, 10, 11, 2,
            20, 0, 0, 0,
            0, 30, 0, 0,
            0, 41, 40, 0,
            0, 0, 0, 50,
            0, 0, 60, 61,
            70, 0, 0, 0,
            81, 80, 0, 0};

        private final int[] kinds = new int[MOST_BODIES];
        private final int[] ranFirst = new int[MOST_TRACED];
        private int bodiesKept;
        private int ran;
        private int actor;

        int size() {
            return bodiesKept;
        }

        int latestRuns() {
            return ran;
        }

        boolean isKind(int kind) {
            return kind >= 0 && kind < KINDS;
        }

        int kindOf(int number) {
            return number >= 0 && number < bodiesKept ? kinds[number] : -1;
        }

        boolean isUnder(int kind, int other) {
            int at = kind;
            for (int up = 0; up < KINDS && isKind(at); up++) {
                if (at == other) {
                    return true;
                }
                at = ABOVE[at];
            }
            return false;
        }

        int add(int kind) {
            if (!isKind(kind)) {
                return BAD;
            }
            if (bodiesKept >= MOST_BODIES) {
                return FULL;
            }
            kinds[bodiesKept] = kind;
            bodiesKept++;
            return bodiesKept - 1;
        }

        int traced(int i) {
            return i >= 0 && i < ran && i < MOST_TRACED ? ranFirst[i] : BAD;
        }

        int perform(int number, int act, int x) {
            ran = 0;
            if (kindOf(number) < 0 || act < 0 || act >= ACTS) {
                return 0;
            }
            actor = number;
            return runOwn(act, x, 0);
        }

        private void note(int number) {
            if (ran < MOST_TRACED) {
                ranFirst[ran] = number;
            }
            ran++;
        }

        private int runOwn(int act, int x, int depth) {
            return runFrom(kindOf(actor), act, x, depth);
        }

        private int runAbove(int kind, int act, int x, int depth) {
            return runFrom(isKind(kind) ? ABOVE[kind] : -1, act, x, depth);
        }

        private int runFrom(int kind, int act, int x, int depth) {
            int at = kind;
            for (int up = 0; up < KINDS && isKind(at); up++) {
                int number = OWN[at * ACTS + act];
                if (number != 0 && depth < DEEPEST) {
                    return runBody(number, at, x, depth + 1);
                }
                at = ABOVE[at];
            }
            return 0;
        }

        private int runBody(int number, int kind, int x, int depth) {
            note(number);
            switch (number) {
                case 1:
                    return x + actor;
                case 10:
                    return runOwn(RINGS, x, depth) * 2;
                case 11:
                    return x ^ actor;
                case 2:
                    return runOwn(BRUSHES, x, depth) - runOwn(HEARS, 1, depth);
                case 20:
                    return runAbove(kind, RINGS, x, depth) + 3;
                case 30:
                    return -runAbove(kind, BRUSHES, x, depth);
                case 40:
                    return runAbove(kind, HEARS, x, depth) * 3;
                case 41:
                    return runAbove(kind, BRUSHES, x + 1, depth);
                case 50:
                    return runAbove(kind, WRITES, x, depth) ^ 5;
                case 60:
                    return runAbove(kind, HEARS, x, depth) - runOwn(RINGS, 2, depth);
                case 61:
                    return runAbove(kind, WRITES, x, depth) + 1;
                case 70:
                    return runAbove(kind, RINGS, x, depth) * 2;
                case 80:
                    return runAbove(kind, BRUSHES, x, depth) + runOwn(HEARS, 2, depth);
                case 81:
                    return runAbove(kind, RINGS, x, depth) - 1;
                default:
                    return 0;
            }
        }
    }

    /** A place that holds nothing, a BODY, or a ROW. */
    private static final class Shelf {
        private static final int ROW_SORTS = 5, MOST_ELEMENTS = 60;
        private static final int NO_ROW = -1, BYTES = 0, SHORTS = 1, INTS = 2, LONGS = 3;

        private final long[] elements = new long[MOST_ELEMENTS];
        private int heldBody = -1;
        private int rowSort = NO_ROW;
        private int size;

        boolean isEmpty() {
            return heldBody < 0 && rowSort == NO_ROW;
        }

        boolean isRow() {
            return rowSort != NO_ROW;
        }

        boolean isBytes() {
            return rowSort == BYTES;
        }

        boolean isOfSortOf(Shelf other) {
            return other != null && rowSort == other.rowSort;
        }

        int bodyHeld() {
            return heldBody;
        }

        void holdBody(int number) {
            heldBody = number;
            rowSort = NO_ROW;
            size = 0;
        }

        void holdRow(int sort, int n) {
            heldBody = -1;
            rowSort = sort;
            size = Math.max(0, Math.min(n, MOST_ELEMENTS));
            Arrays.fill(elements, 0L);
        }

        boolean hasPlaces(int from, int n) {
            return from >= 0 && n >= 0 && n <= size && from <= size - n;
        }

        long read(int i) {
            return hasPlaces(i, 1) ? elements[i] : 0L;
        }

        void write(int i, long v) {
            if (hasPlaces(i, 1)) {
                elements[i] = lowest(v);
            }
        }

        private long lowest(long v) {
            switch (rowSort) {
                case BYTES:
                    return (byte) v;
                case SHORTS:
                    return (short) v;
                case INTS:
                    return (int) v;
                case LONGS:
                    return v;
                default:
                    return v != 0 ? 1 : 0;
            }
        }

        void copy(int from, Shelf other, int to, int n) {
            if (other != null && hasPlaces(from, n) && other.hasPlaces(to, n)) {
                System.arraycopy(elements, from, other.elements, to, n);
            }
        }

        /** How many MINUTES it tells, as a WALK or a BOOK. */
        int minutes() {
            return Math.min(size, MINUTES);
        }

        /** What a WALK or a BOOK tells in a MINUTE. */
        int at(int i) {
            return (int) read(i);
        }
    }
}
