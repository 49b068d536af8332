/** Orchard walls that go by night a foot toward whichever neighbour did less that day. */
public final class LeaningWalls {
    public static final int BAD = -1, NO = -2, FULL = -3, NONE = -4;

    private static final int MOST_LETTERS = 200, FIRST_LETTER = 32, LAST_LETTER = 126, NO_LETTER = -1;
    private static final int MOST_FAMILIES = 6, MOST_WALLS = 8, MOST_WALLS_EACH = 4, MOST_TREES = 6;
    private static final int PLAIN = 0, MOANER = 2, DOG = 3, HIRER = 4, KINDS = 5;
    private static final int MOST_HOURS = 12, MOST_LAND = 99, MOST_FROM_WALL = 40, TREE_SHIFT = 20;
    private static final int WEEK = 7, REST_DAY = 6, RICH = 10, HIRED = 2;
    private static final int MOST_PASSED = 30, MOST_BEHIND = 60, MOST_PLANNED = 14, MOST_ROUNDS = 20;
    private static final int PLACE_SHIFT = 50, BEHIND_SHIFT = 100, MORE_SHIFT = 50;
    private static final int MOST_WAYS = 1000;
    private static final int MOST_UNDONE = 8, MOST_KEPT = 2;
    private static final int MOST_SEEN = 6, MOST_SEEN_PLACE = 99, MOST_SEEN_DAYS = 30, SO_AS_IT_IS = 64;
    private static final int TENTHS = 10, MOST_YEARS = 9999;
    private static final long DRAW_MODULUS = 65521, DRAW_BY_YEAR = 7919, DRAW_BY_DAY = 6151;
    private static final String FIRST_COUNTY =
        "f0,5,20;f1,8,12;f2,4,9;f3,3,15;f4,6,30;w0,1;w1,2;w2,3;w3,0;w0,4;w4,2;t0,22;t1,18;t4,21;";

    private final Script script = new Script();
    private final County county = new County();
    private final County readCounty = new County();
    private final Stand now = new Stand();
    private final Pile undoable = new Pile(MOST_UNDONE);
    private final Pile keptStands = new Pile(MOST_KEPT);
    private final Sightings sightings = new Sightings();
    private final Foresight foresight = new Foresight();
    private final Suspicion suspicion = new Suspicion();
    private final Chance chance = new Chance();

    public LeaningWalls() {
        for (int i = 0; i < FIRST_COUNTY.length(); i++) {
            script.append(FIRST_COUNTY.charAt(i));
        }
        script.readInto(county);
        script.length = 0;
        now.begin(county);
    }

    // ---- counties

    public int write(int letter) {
        if (!within(letter, FIRST_LETTER, LAST_LETTER)) {
            return BAD;
        }
        return script.append((char) letter) ? script.length : FULL;
    }

    public int wipe() {
        int length = script.length;
        script.length = 0;
        return length;
    }

    public int fault() {
        return script.readInto(readCounty);
    }

    public int lay() {
        if (script.readInto(readCounty) != NONE || readCounty.families == 0) {
            return NO;
        }
        county.takeOver(readCounty);
        now.begin(county);
        undoable.size = 0;
        keptStands.size = 0;
        sightings.size = 0;
        return county.families;
    }

    public int family(int f, int what) {
        if (!isFamily(f)) {
            return BAD;
        }
        switch (what) {
            case 0: return county.kinds[f];
            case 1: return county.hours[f];
            case 2: return now.land[f];
            case 3: return now.isSick(f) ? 1 : 0;
            case 4: return county.wallsOf(f);
            case 5: return treesOf(f);
            default: return BAD;
        }
    }

    public int wall(int w, int what) {
        if (!isWall(w)) {
            return BAD;
        }
        int a = 2 * w;
        int b = a + 1;
        switch (what) {
            case 0: return county.owners[a];
            case 1: return county.owners[b];
            case 2: return now.places[w] + PLACE_SHIFT;
            case 3: return now.shares[a];
            case 4: return now.shares[b];
            case 5: return now.does(county, a);
            case 6: return now.does(county, b);
            case 7: return ownerOrNone(now.losingSide(county, w, now.does(county, a), now.does(county, b)));
            default: return BAD;
        }
    }

    public int tree(int t) {
        return isTree(t) ? now.treeOwner(county, t) : BAD;
    }

    // ---- days

    public int pass(int n) {
        if (!within(n, 1, MOST_PASSED)) {
            return BAD;
        }
        undoable.put(now);
        for (int i = 0; i < n; i++) {
            now.goDay(county, 0);
        }
        return now.days;
    }

    public int share(int f, int w, int h) {
        if (!isFamily(f) || !isWall(w) || !within(h, 0, MOST_HOURS)) {
            return BAD;
        }
        int side = county.sideAt(f, w);
        if (side == NONE) {
            return NO;
        }
        int left = county.hours[f] - now.sharedBy(county, f) + now.shares[side] - h;
        if (left < 0) {
            return NO;
        }
        undoable.put(now);
        now.shares[side] = h;
        return left;
    }

    public int sick(int f) {
        if (!isFamily(f)) {
            return BAD;
        }
        undoable.put(now);
        now.turnSickness(f);
        return now.isSick(f) ? 1 : 0;
    }

    public int undo() {
        return undoable.takeLastInto(now) ? undoable.size : NO;
    }

    // ---- what comes

    public int behind(int n, int k, int what) {
        if (!within(n, 0, MOST_BEHIND)) {
            return BAD;
        }
        switch (what) {
            case 0: return isFamily(k) ? foresight.standBehind(county, now, n).land[k] : BAD;
            case 1: return isWall(k) ? foresight.standBehind(county, now, n).places[k] + BEHIND_SHIFT : BAD;
            case 2: return isTree(k) ? foresight.standBehind(county, now, n).treeOwner(county, k) : BAD;
            default: return BAD;
        }
    }

    public int gone(int what) {
        if (!within(what, 0, 1)) {
            return BAD;
        }
        if (!foresight.findGone(county, now)) {
            return NONE;
        }
        return what == 0 ? foresight.goneFamily : foresight.goneBehind;
    }

    public int best(int f, int n, int k) {
        if (!isFamily(f) || !within(n, 1, MOST_PLANNED) || !within(k, 0, MOST_WALLS_EACH)) {
            return BAD;
        }
        int walls = county.wallsOf(f);
        if (walls == 0 || k > walls) {
            return NONE;
        }
        int land = foresight.findBestWay(county, now, f, n);
        return k == 0 ? land : foresight.bestWay[k - 1];
    }

    public int enough(int f, int n) {
        return isFamily(f) && within(n, 1, MOST_PLANNED) ? foresight.fewestHours(county, now, f, n) : BAD;
    }

    public int nextTo(int f, int g) {
        if (!isFamily(f) || !isFamily(g) || f == g) {
            return BAD;
        }
        return foresight.moreByWall(county, now, f, g) + MORE_SHIFT;
    }

    public int all(int f) {
        return isFamily(f) ? foresight.settledHours(county, now, f) : BAD;
    }

    // ---- what was seen

    public int see(int w, int v, int t) {
        if (!isWall(w) || !within(v, 0, MOST_SEEN_PLACE) || !within(t, 1, MOST_SEEN_DAYS)) {
            return BAD;
        }
        return sightings.add(w, v - PLACE_SHIFT, t) ? sightings.size : FULL;
    }

    public int forget() {
        int seen = sightings.size;
        sightings.size = 0;
        return seen;
    }

    public int whoSick() {
        return suspicion.suspects(county, now, sightings);
    }

    public int kinds(int f) {
        return isFamily(f) ? suspicion.likelyKinds(county, now, sightings, f) : BAD;
    }

    // ---- idleness, years

    public int idle(int f, int l, int x, int part) {
        if (!isFamily(f) || !within(l, 0, MOST_LAND) || !within(x, 0, TENTHS) || !within(part, 0, 1)) {
            return BAD;
        }
        chance.weighIdleness(county, now, f, l, x);
        return part == 0 ? chance.above : chance.below;
    }

    public int year(int z, int n, int what) {
        if (!within(z, 0, MOST_YEARS) || !within(n, 1, MOST_BEHIND) || !within(what, 0, 1)) {
            return BAD;
        }
        chance.goYear(county, now, z, n);
        return what == 0 ? chance.mostLand : chance.feet;
    }

    public int keep() {
        if (keptStands.isFull()) {
            return FULL;
        }
        keptStands.put(now);
        return keptStands.size;
    }

    public int back() {
        if (!keptStands.takeLastInto(now)) {
            return NO;
        }
        undoable.size = 0;
        return keptStands.size;
    }

    public int count(int what) {
        switch (what) {
            case 0: return county.families;
            case 1: return county.walls;
            case 2: return county.trees;
            case 3: return now.days;
            case 4: return Integer.bitCount(now.sickBits);
            case 5: return landOfAll();
            case 6: return sightings.size;
            case 7: return undoable.size;
            case 8: return keptStands.size;
            case 9: return script.length;
            default: return BAD;
        }
    }

    private boolean isFamily(int f) {
        return within(f, 0, county.families - 1);
    }

    private boolean isWall(int w) {
        return within(w, 0, county.walls - 1);
    }

    private boolean isTree(int t) {
        return within(t, 0, county.trees - 1);
    }

    private int ownerOrNone(int side) {
        return side == NONE ? NONE : county.owners[side];
    }

    private int treesOf(int f) {
        int bits = 0;
        for (int t = 0; t < county.trees; t++) {
            if (now.treeOwner(county, t) == f) {
                bits |= 1 << t;
            }
        }
        return bits;
    }

    private int landOfAll() {
        int land = 0;
        for (int f = 0; f < county.families; f++) {
            land += now.land[f];
        }
        return land;
    }

    private static boolean within(int number, int least, int most) {
        return number >= least && number <= most;
    }

    /** What a text tells: families, walls and trees, as they are told and never change. */
    private static final class County {
        int families, walls, trees;
        final int[] kinds = new int[MOST_FAMILIES];
        final int[] hours = new int[MOST_FAMILIES];
        final int[] lands = new int[MOST_FAMILIES];
        // a wall w has two sides, 2w (of A) and 2w + 1 (of B); one wall more than can be told is tried by nextTo
        final int[] owners = new int[2 * (MOST_WALLS + 1)];
        final int[] treeWalls = new int[MOST_TREES];
        final int[] treePlaces = new int[MOST_TREES];

        void clear() {
            families = 0;
            walls = 0;
            trees = 0;
        }

        void takeOver(County other) {
            families = other.families;
            walls = other.walls;
            trees = other.trees;
            System.arraycopy(other.kinds, 0, kinds, 0, kinds.length);
            System.arraycopy(other.hours, 0, hours, 0, hours.length);
            System.arraycopy(other.lands, 0, lands, 0, lands.length);
            System.arraycopy(other.owners, 0, owners, 0, owners.length);
            System.arraycopy(other.treeWalls, 0, treeWalls, 0, treeWalls.length);
            System.arraycopy(other.treePlaces, 0, treePlaces, 0, treePlaces.length);
        }

        boolean addFamily(int kind, int hoursADay, int land) {
            if (families >= MOST_FAMILIES || !within(kind, 0, KINDS - 1)
                || !within(hoursADay, 0, MOST_HOURS) || !within(land, 0, MOST_LAND)) {
                return false;
            }
            kinds[families] = kind;
            hours[families] = hoursADay;
            lands[families] = land;
            families++;
            return true;
        }

        boolean addWall(int a, int b) {
            if (walls >= MOST_WALLS || a == b || !canHaveWall(a) || !canHaveWall(b)) {
                return false;
            }
            putWall(a, b);
            return true;
        }

        private boolean canHaveWall(int f) {
            return within(f, 0, families - 1) && wallsOf(f) < MOST_WALLS_EACH;
        }

        /** Puts a wall more than may be told, too: whoever calls this has looked whether it may be. */
        void putWall(int a, int b) {
            if (walls > MOST_WALLS) {
                return;
            }
            owners[2 * walls] = a;
            owners[2 * walls + 1] = b;
            walls++;
        }

        boolean addTree(int w, int fromWall) {
            if (trees >= MOST_TREES || !within(w, 0, walls - 1) || !within(fromWall, 0, MOST_FROM_WALL)) {
                return false;
            }
            treeWalls[trees] = w;
            treePlaces[trees] = fromWall - TREE_SHIFT;
            trees++;
            return true;
        }

        int sides() {
            return 2 * walls;
        }

        int wallsOf(int f) {
            int many = 0;
            for (int side = 0; side < sides(); side++) {
                if (owners[side] == f) {
                    many++;
                }
            }
            return many;
        }

        /** On which side of a wall a family is; NONE. */
        int sideAt(int f, int w) {
            if (owners[2 * w] == f) {
                return 2 * w;
            }
            return owners[2 * w + 1] == f ? 2 * w + 1 : NONE;
        }
    }

    /** THE TEXT, and how it is read. */
    private static final class Script {
        int length;
        private final char[] letters = new char[MOST_LETTERS];
        private final int[] numbers = new int[3];
        private int place;

        boolean append(char letter) {
            if (length >= MOST_LETTERS) {
                return false;
            }
            letters[length] = letter;
            length++;
            return true;
        }

        /** The place of the first fault; NONE. */
        int readInto(County county) {
            county.clear();
            place = 0;
            for (int item = 0; item < MOST_LETTERS && place < length; item++) {
                int start = place;
                if (!readItem(county)) {
                    return start;
                }
            }
            return NONE;
        }

        private boolean readItem(County county) {
            int letter = letterHere();
            place++;
            switch (letter) {
                case 'f': return readNumbers(3) && county.addFamily(numbers[0], numbers[1], numbers[2]);
                case 'w': return readNumbers(2) && county.addWall(numbers[0], numbers[1]);
                case 't': return readNumbers(2) && county.addTree(numbers[0], numbers[1]);
                default: return false;
            }
        }

        private boolean readNumbers(int many) {
            for (int i = 0; i < many && i < numbers.length; i++) {
                numbers[i] = readNumber();
                if (numbers[i] == NONE || letterHere() != (i + 1 < many ? ',' : ';')) {
                    return false;
                }
                place++;
            }
            return true;
        }

        /** One or two figures; a third one is found to be no comma by whoever reads on. */
        private int readNumber() {
            if (!within(letterHere(), '0', '9')) {
                return NONE;
            }
            int number = letterHere() - '0';
            place++;
            if (within(letterHere(), '0', '9')) {
                number = 10 * number + letterHere() - '0';
                place++;
            }
            return number;
        }

        private int letterHere() {
            return place < length && place < MOST_LETTERS ? letters[place] : NO_LETTER;
        }
    }

    /** How all stands in a county on a day, and how days go by. */
    private static final class Stand {
        int days, sickBits;
        final int[] land = new int[MOST_FAMILIES];
        final int[] places = new int[MOST_WALLS + 1];
        final int[] shares = new int[2 * (MOST_WALLS + 1)];
        private final int[] did = new int[2 * (MOST_WALLS + 1)];

        void begin(County county) {
            days = 0;
            sickBits = 0;
            for (int w = 0; w < places.length; w++) {
                places[w] = 0;
            }
            for (int side = 0; side < shares.length; side++) {
                shares[side] = 0;
            }
            for (int f = 0; f < county.families; f++) {
                land[f] = county.lands[f];
                shareEvenly(county, f, county.hours[f]);
            }
        }

        void takeOver(Stand other) {
            days = other.days;
            sickBits = other.sickBits;
            System.arraycopy(other.land, 0, land, 0, land.length);
            System.arraycopy(other.places, 0, places, 0, places.length);
            System.arraycopy(other.shares, 0, shares, 0, shares.length);
        }

        boolean isSick(int f) {
            return (sickBits >> f & 1) == 1;
        }

        void turnSickness(int f) {
            sickBits ^= 1 << f;
        }

        void shareEvenly(County county, int f, int hours) {
            int walls = county.wallsOf(f);
            if (walls == 0) {
                return;
            }
            int each = hours / walls;
            int left = hours % walls;
            for (int side = 0; side < county.sides(); side++) {
                if (county.owners[side] == f) {
                    shares[side] = left > 0 ? each + 1 : each;
                    left--;
                }
            }
        }

        /** Shares as told, a number for each wall of a family, its lowest wall first. */
        void shareBy(County county, int f, int[] way) {
            int k = 0;
            for (int side = 0; side < county.sides(); side++) {
                if (county.owners[side] == f && k < way.length) {
                    shares[side] = way[k];
                    k++;
                }
            }
        }

        int sharedBy(County county, int f) {
            int hours = 0;
            for (int side = 0; side < county.sides(); side++) {
                if (county.owners[side] == f) {
                    hours += shares[side];
                }
            }
            return hours;
        }

        int treeOwner(County county, int t) {
            int w = county.treeWalls[t];
            return county.owners[places[w] >= county.treePlaces[t] ? 2 * w : 2 * w + 1];
        }

        /** What the family on a side of a wall does there on this day. */
        int does(County county, int side) {
            if (days % WEEK == REST_DAY) {
                return 0;
            }
            int f = county.owners[side];
            int share = shares[side];
            boolean isSick = (sickBits >> f & 1) == 1;
            switch (county.kinds[f]) {
                case PLAIN: return isSick ? 0 : share;
                case MOANER: return isSick ? 2 * share : share;
                case DOG: return isSick ? 1 : share + 1;
                case HIRER:
                    if (isSick) {
                        return 0;
                    }
                    return land[f] >= RICH && share < HIRED ? HIRED : share;
                default: return 0;
            }
        }

        /** The side toward which a wall would go by what both did and by the land they have; NONE. */
        int losingSide(County county, int w, int byA, int byB) {
            if (byA == byB) {
                return NONE;
            }
            int side = byA < byB ? 2 * w : 2 * w + 1;
            return land[county.owners[side]] > 0 ? side : NONE;
        }

        /** A day goes by, on which the families in idleBits do nothing: how many feet the walls went. */
        int goDay(County county, int idleBits) {
            // all is done ahead of the first wall's going, for a hirer counts by the land he has in the morning
            for (int side = 0; side < county.sides(); side++) {
                boolean isIdle = (idleBits >> county.owners[side] & 1) == 1;
                did[side] = isIdle ? 0 : does(county, side);
            }
            days++;
            int feet = 0;
            for (int w = 0; w < county.walls; w++) {
                int side = losingSide(county, w, did[2 * w], did[2 * w + 1]);
                if (side != NONE) {
                    land[county.owners[side]]--;
                    land[county.owners[side ^ 1]]++;
                    places[w] += side == 2 * w ? -1 : 1;
                    feet++;
                }
            }
            return feet;
        }
    }

    /** A pile of stands that makes no new ones: the oldest goes when one more would be too many. */
    private static final class Pile {
        int size;
        private final Stand[] stands;

        Pile(int most) {
            stands = new Stand[most < 1 ? 1 : most];
            for (int i = 0; i < stands.length; i++) {
                stands[i] = new Stand();
            }
        }

        boolean isFull() {
            return size >= stands.length;
        }

        void put(Stand stand) {
            if (isFull()) {
                dropOldest();
            }
            stands[size].takeOver(stand);
            size++;
        }

        private void dropOldest() {
            Stand oldest = stands[0];
            for (int i = 1; i < stands.length; i++) {
                stands[i - 1] = stands[i];
            }
            stands[stands.length - 1] = oldest;
            size = stands.length - 1;
        }

        boolean takeLastInto(Stand stand) {
            if (size == 0) {
                return false;
            }
            size--;
            stand.takeOver(stands[size]);
            return true;
        }
    }

    /** What comes, and what would come if hours were shared otherwise. */
    private static final class Foresight {
        int goneFamily, goneBehind;
        final int[] bestWay = new int[MOST_WALLS_EACH];
        private final int[] way = new int[MOST_WALLS_EACH];
        private final int[] hours = new int[MOST_FAMILIES];
        private final Stand plan = new Stand();
        private final Stand trial = new Stand();
        private final County trialCounty = new County();

        Stand standBehind(County county, Stand from, int n) {
            trial.takeOver(from);
            for (int i = 0; i < n; i++) {
                trial.goDay(county, 0);
            }
            return trial;
        }

        boolean findGone(County county, Stand now) {
            trial.takeOver(now);
            for (int day = 1; day <= MOST_BEHIND; day++) {
                trial.goDay(county, 0);
                for (int f = 0; f < county.families; f++) {
                    if (now.land[f] > 0 && trial.land[f] == 0) {
                        goneFamily = f;
                        goneBehind = day;
                        return true;
                    }
                }
            }
            return false;
        }

        /** The most land a family can have; the way in which it shares for that is in bestWay then. */
        int findBestWay(County county, Stand now, int f, int n) {
            int walls = county.wallsOf(f);
            int most = NONE;
            plan.takeOver(now);
            beginWays(county.hours[f]);
            for (int i = 0; i < MOST_WAYS; i++) {
                plan.shareBy(county, f, way);
                int land = standBehind(county, plan, n).land[f];
                if (land > most) {
                    most = land;
                    System.arraycopy(way, 0, bestWay, 0, way.length);
                }
                if (!nextWay(walls)) {
                    return most;
                }
            }
            return most;
        }

        private void beginWays(int hoursToShare) {
            for (int k = 0; k < way.length; k++) {
                way[k] = 0;
            }
            way[0] = hoursToShare;
        }

        /** Ways come with more at the lowest wall first: whether there was one more. */
        private boolean nextWay(int walls) {
            int last = walls < way.length ? walls - 1 : way.length - 1;
            int k = last - 1;
            while (k >= 0 && way[k] == 0) {
                k--;
            }
            if (k < 0) {
                return false;
            }
            int atLast = way[last];
            way[last] = 0;
            way[k]--;
            way[k + 1] = atLast + 1;
            return true;
        }

        int fewestHours(County county, Stand now, int f, int n) {
            plan.takeOver(now);
            for (int h = 0; h <= MOST_HOURS; h++) {
                plan.shareEvenly(county, f, h);
                if (standBehind(county, plan, n).land[f] >= now.land[f]) {
                    return h;
                }
            }
            return NONE;
        }

        /** How much more land a family would have in a week, were there one wall more between it and another. */
        int moreByWall(County county, Stand now, int f, int other) {
            int without = standBehind(county, now, WEEK).land[f];
            trialCounty.takeOver(county);
            trialCounty.putWall(f, other);
            return standBehind(trialCounty, now, WEEK).land[f] - without;
        }

        /** The hours of a family when nobody would have others any more; NONE. */
        int settledHours(County county, Stand now, int f) {
            plan.takeOver(now);
            System.arraycopy(county.hours, 0, hours, 0, hours.length);
            for (int round = 0; round < MOST_ROUNDS; round++) {
                if (!someoneChanges(county)) {
                    return hours[f];
                }
            }
            return NONE;
        }

        private boolean someoneChanges(County county) {
            boolean changed = false;
            for (int f = 0; f < county.families; f++) {
                int h = payingHours(county, f);
                plan.shareEvenly(county, f, h);
                changed |= h != hours[f];
                hours[f] = h;
            }
            return changed;
        }

        private int payingHours(County county, int f) {
            int paying = 0;
            int most = 0;
            for (int h = 0; h <= MOST_HOURS; h++) {
                plan.shareEvenly(county, f, h);
                int gain = standBehind(county, plan, WEEK).land[f] - h;
                if (h == 0 || gain > most) {
                    paying = h;
                    most = gain;
                }
            }
            return paying;
        }
    }

    /** What is seen of walls, some days from whenever it is asked. */
    private static final class Sightings {
        int size;
        private final int[] walls = new int[MOST_SEEN];
        private final int[] places = new int[MOST_SEEN];
        private final int[] days = new int[MOST_SEEN];

        boolean add(int w, int place, int day) {
            if (size >= MOST_SEEN) {
                return false;
            }
            walls[size] = w;
            places[size] = place;
            days[size] = day;
            size++;
            return true;
        }

        /** Whether all would be so; the stand goes on by days at that. */
        boolean comeTrue(County county, Stand stand) {
            int last = lastDay();
            for (int day = 1; day <= last; day++) {
                stand.goDay(county, 0);
                if (!areSoOn(day, stand)) {
                    return false;
                }
            }
            return true;
        }

        private boolean areSoOn(int day, Stand stand) {
            for (int i = 0; i < size; i++) {
                if (days[i] == day && stand.places[walls[i]] != places[i]) {
                    return false;
                }
            }
            return true;
        }

        private int lastDay() {
            int last = 0;
            for (int i = 0; i < size; i++) {
                last = Math.max(last, days[i]);
            }
            return last;
        }
    }

    /** Who would be sick, and of which kind one would be, by what is seen. */
    private static final class Suspicion {
        private final Stand trial = new Stand();
        private final County trialCounty = new County();

        int suspects(County county, Stand now, Sightings sightings) {
            trial.takeOver(now);
            int bits = sightings.comeTrue(county, trial) ? SO_AS_IT_IS : 0;
            for (int f = 0; f < county.families; f++) {
                trial.takeOver(now);
                trial.turnSickness(f);
                if (sightings.comeTrue(county, trial)) {
                    bits |= 1 << f;
                }
            }
            return bits;
        }

        int likelyKinds(County county, Stand now, Sightings sightings, int f) {
            int bits = 0;
            trialCounty.takeOver(county);
            for (int kind = 0; kind < KINDS; kind++) {
                trialCounty.kinds[f] = kind;
                trial.takeOver(now);
                if (sightings.comeTrue(trialCounty, trial)) {
                    bits |= 1 << kind;
                }
            }
            return bits;
        }
    }

    /** Idleness by chance, and years by draws. */
    private static final class Chance {
        int above, below, mostLand, feet;
        private final Stand trial = new Stand();

        void weighIdleness(County county, Stand now, int f, int land, int tenths) {
            above = 0;
            below = 1;
            for (int i = 0; i < county.families; i++) {
                below *= TENTHS;
            }
            for (int idleBits = 0; idleBits < 1 << county.families; idleBits++) {
                trial.takeOver(now);
                trial.goDay(county, idleBits);
                if (trial.land[f] >= land) {
                    above += weight(county.families, idleBits, tenths);
                }
            }
            int common = commonDivisor(above, below);
            if (common > 1) {
                above /= common;
                below /= common;
            }
        }

        private static int weight(int families, int idleBits, int tenths) {
            int weight = 1;
            for (int f = 0; f < families; f++) {
                weight *= (idleBits >> f & 1) == 1 ? tenths : TENTHS - tenths;
            }
            return weight;
        }

        private static int commonDivisor(int a, int b) {
            int larger = a;
            int smaller = b;
            // the smaller one at least halves in two steps, so 64 are enough for any two ints
            for (int step = 0; step < 64 && smaller != 0; step++) {
                int rest = larger % smaller;
                larger = smaller;
                smaller = rest;
            }
            return larger;
        }

        void goYear(County county, Stand now, int year, int n) {
            trial.takeOver(now);
            feet = 0;
            for (int day = 0; day < n; day++) {
                turnByDraw(county, draw(year, day));
                feet += trial.goDay(county, 0);
            }
            mostLand = 0;
            for (int f = 0; f < county.families; f++) {
                mostLand = Math.max(mostLand, trial.land[f]);
            }
        }

        private void turnByDraw(County county, int draw) {
            if (county.families > 0 && draw / 8 % 3 == 0) {
                trial.turnSickness(draw % county.families);
            }
        }

        private static int draw(int year, int day) {
            long x = DRAW_BY_YEAR * year + DRAW_BY_DAY * day + 1;
            return (int) (x * x % DRAW_MODULUS / 2);
        }
    }
}
