import java.util.Arrays;

/**
 * A layer of decoys in a house of places and doors. The words in capitals are those of the
 * document. A set of PLACES is a number in which PLACE p counts 2 to the p.
 */
public final class DecoyHouse {
    public static final int NONE = -1;

    private static final int FEWEST_PLACES = 2;
    private static final int MOST_PLACES = 9;
    private static final int SETS = 1 << MOST_PLACES;
    private static final int ALL_MARKS = 255;

    private static final int PLAIN = 0;
    private static final int GATE = 1;
    private static final int JEWEL = 2;

    private static final int LONGEST_WAY = 6;
    private static final int MOST_WAYS = 2000;

    private static final int ROUNDS = 6;
    private static final int LONGEST_ROUND = 8;
    private static final int MOST_TIMES = 99;
    private static final int MOST_HONEST = ROUNDS * LONGEST_ROUND * MOST_TIMES;

    private static final int MOST_TOUCHES = 6;
    private static final int FIRST_BEARS = 3;
    private static final int MOST_BEARS = 9;
    private static final int DAYS_KNOWN = 10;
    private static final int LAST_DAY = 10000;

    private final Plan plan = new Plan();
    private final WayBook book = new WayBook();
    private final Rounds rounds = new Rounds();
    private final Watch watch = new Watch();
    private int visibleMarks;

    public DecoyHouse() {
        beginAnew(FEWEST_PLACES);
    }

    public boolean house(int n) {
        if (n < FEWEST_PLACES || n > MOST_PLACES) {
            return false;
        }
        beginAnew(n);
        return true;
    }

    public boolean door(int a, int b, boolean is) {
        if (!plan.hasPlace(a) || !plan.hasPlace(b) || a == b || plan.hasDoor(a, b) == is) {
            return false;
        }
        plan.turnDoor(a, b);
        book.forget();
        return true;
    }

    public boolean is(int p, int kind) {
        if (!plan.hasPlace(p) || kind < PLAIN || kind > JEWEL || has(watch.decoySet(), p)) {
            return false;
        }
        plan.setKind(p, kind);
        book.forget();
        return true;
    }

    public boolean looks(int p, int marks) {
        if (!plan.hasPlace(p) || !areMarks(marks)) {
            return false;
        }
        plan.setMarks(p, marks);
        return true;
    }

    public boolean visible(int marks) {
        if (!areMarks(marks)) {
            return false;
        }
        visibleMarks = marks;
        return true;
    }

    public boolean round(int r, int times, int n, int row) {
        if (r < 0 || r >= ROUNDS || times < 0 || times > MOST_TIMES) {
            return false;
        }
        if (n < 0 || n > LONGEST_ROUND || !isRow(n, row)) {
            return false;
        }
        rounds.replace(r, times, n, row);
        return true;
    }

    public int look(int what) {
        switch (what) {
            case 0:
                return plan.size();
            case 1:
                return plan.countDoors();
            case 2:
                return watch.decoySet();
            case 3:
                return watch.knownSet();
            case 4:
                return watch.today();
            case 5:
                return watch.touchCount();
            case 6:
                return visibleMarks;
            case 7:
                return watch.bears();
            default:
                return NONE;
        }
    }

    public int ways() {
        return bookNow().count();
    }

    public int way(int i, int j) {
        WayBook now = bookNow();
        if (i < 0 || i >= now.count()) {
            return NONE;
        }
        return placeOn(now.trail(i), j);
    }

    public int touched(int set) {
        WayBook now = bookNow();
        if (!plan.hasSet(set) || now.count() == NONE) {
            return NONE;
        }
        return now.countTouchedBy(set);
    }

    public int honest(int set) {
        return plan.hasSet(set) ? rounds.touchesOf(set) : NONE;
    }

    public int best(int k, int b, int what) {
        if (k < 0 || k > MOST_PLACES || b < 0 || bookNow().count() == NONE) {
            return NONE;
        }
        int found = findBest(k, b);
        switch (what) {
            case 0:
                return book.countTouchedBy(found);
            case 1:
                return found;
            case 2:
                return rounds.touchesOf(found);
            default:
                return NONE;
        }
    }

    public int cover() {
        int count = bookNow().count();
        if (count == NONE) {
            return NONE;
        }
        // BEST without limits has the order of COVER among the sets that TOUCH all WAYS.
        int found = findBest(MOST_PLACES, MOST_HONEST);
        return book.countTouchedBy(found) == count ? found : NONE;
    }

    public boolean lay(int set) {
        if (!plan.hasSet(set) || (set & ~layableSet()) != 0) {
            return false;
        }
        watch.layDecoys(set);
        return true;
    }

    public int unlike(int p) {
        int decoys = watch.decoySet();
        if (!plan.hasPlace(p) || !has(decoys, p)) {
            return NONE;
        }
        int fewest = NONE;
        for (int q = 0; q < plan.size(); q++) {
            if (!has(decoys, q)) {
                int differing = Integer.bitCount((plan.marks(p) ^ plan.marks(q)) & visibleMarks);
                fewest = fewest == NONE ? differing : Math.min(fewest, differing);
            }
        }
        return fewest;
    }

    public boolean touch(int p) {
        return watch.noteTouch(p);
    }

    public int left() {
        WayBook now = bookNow();
        if (now.count() == NONE) {
            return NONE;
        }
        int met = 0;
        for (int i = 0; i < now.count(); i++) {
            if (watch.openFrom(now.trail(i)) != NONE) {
                met++;
            }
        }
        return met;
    }

    public int leftWay(int i) {
        WayBook now = bookNow();
        int met = 0;
        for (int number = 0; number < now.count(); number++) {
            if (watch.openFrom(now.trail(number)) != NONE) {
                if (met == i) {
                    return number;
                }
                met++;
            }
        }
        return NONE;
    }

    public int next() {
        WayBook now = bookNow();
        if (now.count() == NONE) {
            return NONE;
        }
        int set = 0;
        for (int i = 0; i < now.count(); i++) {
            int trail = now.trail(i);
            set |= setOf(placeOn(trail, watch.openFrom(trail)));
        }
        return set;
    }

    public int tell() {
        return watch.endTale();
    }

    public boolean bear(int n) {
        if (n < 1 || n > MOST_BEARS) {
            return false;
        }
        watch.setBears(n);
        return true;
    }

    public int tales(int p) {
        return plan.hasPlace(p) ? watch.talesOf(p) : NONE;
    }

    public int day() {
        return watch.passDay();
    }

    public int move(int b, int w, int what) {
        if (b < 0 || w < 0 || bookNow().count() == NONE) {
            return NONE;
        }
        int found = findMove(b, w);
        if (found == NONE) {
            return NONE;
        }
        switch (what) {
            case 0:
                return found;
            case 1:
                return Integer.bitCount(found & ~watch.decoySet());
            case 2:
                return book.countTouchedBy(found);
            default:
                return NONE;
        }
    }

    private void beginAnew(int n) {
        plan.clear(n);
        book.forget();
        rounds.clear();
        watch.clear();
        visibleMarks = ALL_MARKS;
    }

    private boolean isRow(int n, int row) {
        for (int j = 0; j < n; j++) {
            if (!plan.hasPlace(placeInRow(row, j))) {
                return false;
            }
        }
        return true;
    }

    /** The WAYS are sought only when asked for, as many DOORS are often set between two askings. */
    private WayBook bookNow() {
        book.readIfForgotten(plan);
        return book;
    }

    /** Where a DECOY can be laid. */
    private int layableSet() {
        return plan.plainSet() & ~watch.knownSet();
    }

    private int findBest(int k, int b) {
        int layable = layableSet();
        // The empty set always keeps to k and b; going upward, the least of equals stays.
        int found = 0;
        for (int set = 1; set <= layable; set++) {
            boolean fits = (set & ~layable) == 0 && Integer.bitCount(set) <= k
                    && rounds.touchesOf(set) <= b;
            if (fits && isBetter(set, found)) {
                found = set;
            }
        }
        return found;
    }

    private boolean isBetter(int set, int other) {
        int moreWays = book.countTouchedBy(set) - book.countTouchedBy(other);
        if (moreWays != 0) {
            return moreWays > 0;
        }
        int morePlaces = Integer.bitCount(set) - Integer.bitCount(other);
        if (morePlaces != 0) {
            return morePlaces < 0;
        }
        return rounds.touchesOf(set) < rounds.touchesOf(other);
    }

    private int findMove(int b, int w) {
        int size = Integer.bitCount(watch.decoySet());
        int layable = layableSet();
        int found = NONE;
        for (int set = 0; set <= layable; set++) {
            boolean fits = (set & ~layable) == 0 && Integer.bitCount(set) == size
                    && rounds.touchesOf(set) <= b && book.countTouchedBy(set) >= w;
            if (fits && (found == NONE || isBetterMove(set, found))) {
                found = set;
            }
        }
        return found;
    }

    private boolean isBetterMove(int set, int other) {
        int decoys = watch.decoySet();
        int moreKept = Integer.bitCount(set & decoys) - Integer.bitCount(other & decoys);
        if (moreKept != 0) {
            return moreKept > 0;
        }
        return book.countTouchedBy(set) > book.countTouchedBy(other);
    }

    private static boolean areMarks(int marks) {
        return marks >= 0 && marks <= ALL_MARKS;
    }

    private static boolean has(int set, int p) {
        return p >= 0 && p < MOST_PLACES && ((set >>> p) & 1) == 1;
    }

    /** The set of one PLACE; the empty one for NONE. */
    private static int setOf(int p) {
        return p >= 0 && p < MOST_PLACES ? 1 << p : 0;
    }

    private static int placeInRow(int row, int j) {
        return (row >>> (4 * j)) & 15;
    }

    /** A trail has four bits for each PLACE, the first the lowest, one more than its number: 0 is NONE. */
    private static int placeOn(int trail, int j) {
        return j >= 0 && j < LONGEST_WAY ? ((trail >>> (4 * j)) & 15) - 1 : NONE;
    }

    private static int withPlace(int trail, int j, int p) {
        return j >= 0 && j < LONGEST_WAY ? trail | ((p + 1) << (4 * j)) : trail;
    }

    /** The PLACES with their DOORS, kinds and LOOKS. */
    private static final class Plan {
        private final int[] doorsFrom = new int[MOST_PLACES];
        private final int[] marksOf = new int[MOST_PLACES];
        private int size;
        private int gates;
        private int jewels;

        void clear(int n) {
            Arrays.fill(doorsFrom, 0);
            Arrays.fill(marksOf, 0);
            size = n;
            gates = 0;
            jewels = 0;
        }

        int size() {
            return size;
        }

        boolean hasPlace(int p) {
            return p >= 0 && p < size && p < MOST_PLACES;
        }

        boolean hasSet(int set) {
            return set >= 0 && set < SETS && set >>> size == 0;
        }

        boolean hasDoor(int a, int b) {
            return has(doorSet(a), b);
        }

        int doorSet(int p) {
            return hasPlace(p) ? doorsFrom[p] : 0;
        }

        void turnDoor(int a, int b) {
            if (hasPlace(a) && hasPlace(b)) {
                doorsFrom[a] ^= setOf(b);
            }
        }

        int countDoors() {
            int count = 0;
            for (int doors : doorsFrom) {
                count += Integer.bitCount(doors);
            }
            return count;
        }

        void setKind(int p, int kind) {
            int place = setOf(p);
            gates = kind == GATE ? gates | place : gates & ~place;
            jewels = kind == JEWEL ? jewels | place : jewels & ~place;
        }

        int gateSet() {
            return gates;
        }

        int jewelSet() {
            return jewels;
        }

        int plainSet() {
            return ((1 << size) - 1) & ~gates & ~jewels;
        }

        void setMarks(int p, int marks) {
            if (hasPlace(p)) {
                marksOf[p] = marks;
            }
        }

        int marks(int p) {
            return hasPlace(p) ? marksOf[p] : 0;
        }
    }

    /** The WAYS of a plan in their order, and how many of them any set TOUCHES. */
    private static final class WayBook {
        private final int[] trails = new int[MOST_WAYS];
        /** For each set how many WAYS lie in it wholly: a set TOUCHES all but those in the rest. */
        private final int[] inside = new int[SETS];
        private int found;
        private boolean read;

        void forget() {
            read = false;
        }

        void readIfForgotten(Plan plan) {
            if (read) {
                return;
            }
            found = 0;
            Arrays.fill(inside, 0);
            for (int p = 0; p < MOST_PLACES; p++) {
                if (has(plan.gateSet(), p)) {
                    walkOn(plan, p, 1, withPlace(0, 0, p), setOf(p));
                }
            }
            sumInside();
            read = true;
        }

        int count() {
            return found > MOST_WAYS ? NONE : found;
        }

        int trail(int i) {
            return i >= 0 && i < MOST_WAYS && i < found ? trails[i] : 0;
        }

        int countTouchedBy(int set) {
            return found - inside[~set & (SETS - 1)];
        }

        /** The trail has `length` PLACES, `last` its last one, `seen` all of them. */
        private void walkOn(Plan plan, int last, int length, int trail, int seen) {
            if (length >= LONGEST_WAY) {
                return;
            }
            int open = plan.doorSet(last) & ~seen;
            if (length == LONGEST_WAY - 1) {
                open &= plan.jewelSet();
            }
            // One WAY more than can be told is enough to know that they are too many.
            for (int p = 0; p < MOST_PLACES && found <= MOST_WAYS; p++) {
                if (!has(open, p)) {
                    continue;
                }
                int longer = withPlace(trail, length, p);
                if (has(plan.jewelSet(), p)) {
                    writeDown(longer, seen | setOf(p));
                } else {
                    walkOn(plan, p, length + 1, longer, seen | setOf(p));
                }
            }
        }

        private void writeDown(int trail, int places) {
            if (found < MOST_WAYS) {
                trails[found] = trail;
            }
            found++;
            inside[places & (SETS - 1)]++;
        }

        /** Place by place each set takes in what lies in it without that PLACE. */
        private void sumInside() {
            for (int p = 0; p < MOST_PLACES; p++) {
                for (int set = 0; set < SETS; set++) {
                    if (has(set, p)) {
                        inside[set] += inside[set & ~setOf(p)];
                    }
                }
            }
        }
    }

    /** The ROUNDS of honest people. */
    private static final class Rounds {
        private final int[] timesOf = new int[ROUNDS];
        private final int[] lengthOf = new int[ROUNDS];
        private final int[] rowOf = new int[ROUNDS];
        private final int[] touchesAt = new int[MOST_PLACES];

        void clear() {
            Arrays.fill(timesOf, 0);
            Arrays.fill(lengthOf, 0);
            Arrays.fill(rowOf, 0);
            Arrays.fill(touchesAt, 0);
        }

        void replace(int r, int times, int n, int row) {
            if (r < 0 || r >= ROUNDS) {
                return;
            }
            addTouches(-timesOf[r], lengthOf[r], rowOf[r]);
            timesOf[r] = times;
            lengthOf[r] = n;
            rowOf[r] = row;
            addTouches(times, n, row);
        }

        int touchesOf(int set) {
            int sum = 0;
            for (int p = 0; p < MOST_PLACES; p++) {
                if (has(set, p)) {
                    sum += touchesAt[p];
                }
            }
            return sum;
        }

        private void addTouches(int times, int n, int row) {
            for (int j = 0; j < n && j < LONGEST_ROUND; j++) {
                int p = placeInRow(row, j);
                if (p < MOST_PLACES) {
                    touchesAt[p] += times;
                }
            }
        }
    }

    /** The DECOYS, the TALE that is going on, those told, and what became KNOWN by them. */
    private static final class Watch {
        private final int[] tale = new int[MOST_TOUCHES];
        private final int[] talesAt = new int[MOST_PLACES];
        private final int[] knownUntil = new int[MOST_PLACES];
        private int decoys;
        private int touches;
        private int date;
        private int bearing;

        void clear() {
            Arrays.fill(talesAt, 0);
            Arrays.fill(knownUntil, 0);
            decoys = 0;
            touches = 0;
            date = 0;
            bearing = FIRST_BEARS;
        }

        int decoySet() {
            return decoys;
        }

        int touchCount() {
            return touches;
        }

        int today() {
            return date;
        }

        int bears() {
            return bearing;
        }

        void setBears(int n) {
            bearing = n;
        }

        int knownSet() {
            int set = 0;
            for (int p = 0; p < MOST_PLACES; p++) {
                if (date < knownUntil[p]) {
                    set |= setOf(p);
                }
            }
            return set;
        }

        int talesOf(int p) {
            return p >= 0 && p < MOST_PLACES ? talesAt[p] : 0;
        }

        int passDay() {
            if (date >= LAST_DAY) {
                return NONE;
            }
            date++;
            return date;
        }

        /** DECOYS that stay keep their TALES; the others' are counted anew. */
        void layDecoys(int set) {
            for (int p = 0; p < MOST_PLACES; p++) {
                if (!has(set & decoys, p)) {
                    talesAt[p] = 0;
                }
            }
            decoys = set;
            touches = 0;
        }

        boolean noteTouch(int p) {
            if (!has(decoys, p) || touches < 0 || touches >= MOST_TOUCHES || wasTouched(p)) {
                return false;
            }
            tale[touches] = p;
            touches++;
            return true;
        }

        /** Where a WAY is open: right behind its last touched PLACE. NONE if the WAY is not LEFT. */
        int openFrom(int trail) {
            int met = 0;
            for (int j = 0; j < LONGEST_WAY; j++) {
                if (met >= touches || met >= MOST_TOUCHES) {
                    return j;
                }
                int p = placeOn(trail, j);
                if (has(decoys, p)) {
                    if (tale[met] != p) {
                        return NONE;
                    }
                    met++;
                }
            }
            return NONE;
        }

        int endTale() {
            int became = 0;
            for (int i = 0; i < touches && i < MOST_TOUCHES; i++) {
                if (becomesKnown(tale[i])) {
                    became++;
                }
            }
            touches = 0;
            return became;
        }

        private boolean wasTouched(int p) {
            for (int i = 0; i < touches && i < MOST_TOUCHES; i++) {
                if (tale[i] == p) {
                    return true;
                }
            }
            return false;
        }

        private boolean becomesKnown(int p) {
            if (p < 0 || p >= MOST_PLACES) {
                return false;
            }
            talesAt[p]++;
            // BEARS may have been lowered below what was told before.
            if (talesAt[p] < bearing) {
                return false;
            }
            talesAt[p] = 0;
            knownUntil[p] = date + DAYS_KNOWN;
            return true;
        }
    }
}
