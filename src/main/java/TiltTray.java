/** A tray with marbles that is tilted; what each call answers stands in the document, by promises. */
public final class TiltTray {
    public static final int UNKNOWN = -1, OUTSIDE = -2, STATE = -3, FULL = -4, NONE = -9;

    private static final int SIDE = 5, CELLS = 25, WAYS = 4;
    private static final int LETTERS = 48, MOST_ACTS = 14, MOST_WEDGES = 3, MOST_SEEN = 6, SLOTS = 2;
    private static final int MOST_FEWEST = 5, MOST_REACH = 4, MOST_ROW = 4, MOST_DAYS = 30;

    /** What can be told of a CELL, by the numbers that cell() answers. */
    private static final int MARBLE = 0, WALL = 1, HOLE = 2, FELT = 3, MAGNET = 4, PARTS = 5;
    private static final int[] MOST_TOLD = {4, 6, 3, 3, 2};
    private static final int MARBLES = 4;
    private static final int GLASS = 0, IRON = 1, WAX = 2, CONTRARY = 3, KINDS = 4;

    /** A MARBLE IN a HOLE is told as IN and the HOLE's CELL; one that is not there at all is AWAY. */
    private static final int IN = 100, AWAY = -1;
    private static final int NOWHERE = -1;
    private static final int FELL = 25, UNHURT = 25;

    private static final int[] POWERS = {1, 10, 100, 1000, 10000};
    private static final int[] ORDERS = {1, 1, 2, 6, 24};
    private static final int DOING = 1000;
    private static final int CHANCES = 10;

    private static final long SEED_TIMES = 6364136223846793005L, SEED_MORE = 1442695040888963407L;
    private static final int SEED_SHIFT = 33, SEED_DRAWS = 29;

    private final char[] text = new char[LETTERS];
    private int letters;
    private Tray tray = new Tray();
    private Tray draft = new Tray();
    private final Spot now = new Spot();
    private final Spot spare = new Spot();
    private final Acts acts = new Acts();
    private final Spot[] slots = new Spot[SLOTS];
    private int kept;
    private final Sights sights = new Sights();
    private final Search search = new Search();
    private final Pairs pairs = new Pairs();
    private final int[] worth = new int[1 << MARBLES];
    private long lastSeed;

    public TiltTray() {
        for (int slot = 0; slot < SLOTS; slot++) {
            slots[slot] = new Spot();
        }
    }

    // ---- the table

    public int write(int letter) {
        if (letter < 0 || letter > 255) {
            return OUTSIDE;
        }
        if (letters >= LETTERS) {
            return FULL;
        }
        text[letters] = (char) letter;
        letters++;
        return letters;
    }

    public int wipe() {
        int was = letters;
        letters = 0;
        return was;
    }

    public int fault() {
        return readText();
    }

    public int table() {
        if (readText() != NONE) {
            return STATE;
        }
        Tray made = draft;
        draft = tray;
        tray = made;
        now.begin(tray);
        acts.forget();
        kept = 0;
        return 100 * Integer.bitCount(tray.told[WALL]) + 10 * Integer.bitCount(tray.told[HOLE]) + tray.marbles;
    }

    public int cell(int cell, int what) {
        if (!isCell(cell)) {
            return UNKNOWN;
        }
        switch (what) {
            case 0:
                return tray.partAt(cell);
            case 1:
                return now.marbleAt(cell);
            case 2:
                return bitOf(now.full, cell);
            case 3:
                return bitOf(now.wedged, cell);
            default:
                return OUTSIDE;
        }
    }

    public int marble(int marble, int what) {
        if (!tray.has(marble)) {
            return UNKNOWN;
        }
        switch (what) {
            case 0:
                return tray.kind[marble];
            case 1:
                return now.at[marble];
            case 2:
                return waysElsewhere(marble);
            case 3:
                return waysOfFall(marble);
            default:
                return OUTSIDE;
        }
    }

    // ---- acts

    public int tilt(int way) {
        if (!isWay(way)) {
            return OUTSIDE;
        }
        acts.remember(now);
        int before = now.fallen();
        tray.roll(now, way);
        now.tilts++;
        return now.fallen() - before;
    }

    public int lift(int marble, int cell) {
        if (!tray.has(marble) || !isCell(cell)) {
            return UNKNOWN;
        }
        int was = now.at[marble];
        if (was == cell || was == IN + cell || !tray.canBe(now, cell) || tray.isOpenHole(now, cell)) {
            return STATE;
        }
        acts.remember(now);
        now.put(marble, cell);
        return was;
    }

    public int wedge(int cell) {
        int refusal = tray.wedgeRefusal(now, cell);
        if (refusal != 0) {
            return refusal;
        }
        acts.remember(now);
        now.wedged ^= 1 << cell;
        return bitOf(now.wedged, cell);
    }

    public int undo() {
        return acts.takeBack(now);
    }

    // ---- tilts

    public int rolls(int marble, int way) {
        if (!tray.has(marble)) {
            return UNKNOWN;
        }
        if (!isWay(way)) {
            return OUTSIDE;
        }
        return restOf(marble, way);
    }

    public int safe() {
        int ways = 0;
        int before = now.fallen();
        for (int way = 0; way < WAYS; way++) {
            tryTilt(way);
            if (spare.fallen() == before) {
                ways |= 1 << way;
            }
        }
        return ways;
    }

    public int fewest(int marble, boolean row) {
        if (!tray.has(marble)) {
            return UNKNOWN;
        }
        if (!search.findFewest(tray, now, marble)) {
            return NONE;
        }
        return row ? search.row : search.found;
    }

    public int reach(int marble) {
        if (!tray.has(marble)) {
            return UNKNOWN;
        }
        return search.findReach(tray, now, marble);
    }

    public int best(int n, boolean row) {
        if (n < 1 || n > MOST_ROW) {
            return OUTSIDE;
        }
        search.findBest(tray, now, n);
        return row ? search.row : search.found;
    }

    public int saves(int marble, int way) {
        if (!tray.has(marble)) {
            return UNKNOWN;
        }
        if (!isWay(way)) {
            return OUTSIDE;
        }
        if (now.isIn(marble)) {
            return STATE;
        }
        if (restOf(marble, way) < IN) {
            return UNHURT;
        }
        return leastSaving(marble, way);
    }

    public int judge(int n, long row) {
        if (n < 1 || n > MOST_ROW || row < 0) {
            return OUTSIDE;
        }
        long part = 1;
        for (int doing = 0; doing < n; doing++) {
            part *= DOING;
        }
        if (row >= part) {
            return OUTSIDE;
        }
        spare.take(now);
        for (int doing = 0; doing < n; doing++) {
            part /= DOING;
            if (!doTold((int) (row / part % DOING))) {
                return doing;
            }
        }
        return NONE;
    }

    // ---- seen

    public int see(int cell, int way, int came) {
        if (!isCell(cell)) {
            return UNKNOWN;
        }
        if (!isWay(way) || came < 0 || came > FELL) {
            return OUTSIDE;
        }
        return sights.add(cell, way, came);
    }

    public int unsee() {
        int was = sights.many;
        sights.many = 0;
        return was;
    }

    public int hidden() {
        int cells = 0;
        for (int cell = 0; cell < CELLS; cell++) {
            if (tray.isPlain(cell) && sights.agree(tray, cell)) {
                cells |= 1 << cell;
            }
        }
        return cells;
    }

    // ---- shares, rests, chances

    public int share(int marble, boolean upper) {
        if (!tray.has(marble)) {
            return UNKNOWN;
        }
        weighGroups();
        int sum = 0;
        for (int group = 0; group < 1 << tray.marbles; group++) {
            if (bitOf(group, marble) == 0) {
                int come = Integer.bitCount(group);
                int orders = ORDERS[come] * ORDERS[tray.marbles - come - 1];
                sum += orders * (worth[group | 1 << marble] - worth[group]);
            }
        }
        return tellFraction(sum, ORDERS[tray.marbles], upper);
    }

    public int rests(int what) {
        if (what < 0 || what > 1) {
            return OUTSIDE;
        }
        weighPairs();
        int many = 0;
        int first = NONE;
        for (int one = 0; one < WAYS; one++) {
            for (int other = 0; other < WAYS; other++) {
                if (pairs.isAtRest(one, other)) {
                    first = many == 0 ? 10 * one + other : first;
                    many++;
                }
            }
        }
        return what == 0 ? many : first;
    }

    public int fails(int marble, int n, int row, int x, boolean upper) {
        if (!tray.has(marble)) {
            return UNKNOWN;
        }
        if (n < 1 || n > MOST_ROW || !isRow(n, row) || x < 0 || x > CHANCES) {
            return OUTSIDE;
        }
        int sum = 0;
        for (int failing = 0; failing < 1 << n; failing++) {
            int weight = weightOf(n, failing, x);
            if (weight > 0 && isInBehind(marble, n, row, failing)) {
                sum += weight;
            }
        }
        return tellFraction(sum, POWERS[n], upper);
    }

    public long seed(long v) {
        long was = lastSeed;
        lastSeed = v;
        return was;
    }

    public int days(int m) {
        if (m < 1 || m > MOST_DAYS) {
            return OUTSIDE;
        }
        spare.take(now);
        int together = 0;
        for (int day = 0; day < m; day++) {
            lastSeed = lastSeed * SEED_TIMES + SEED_MORE;
            int drawn = (int) ((lastSeed >>> SEED_SHIFT) % SEED_DRAWS);
            if (drawn < CELLS) {
                tray.turnWedge(spare, drawn);
            } else {
                tray.roll(spare, drawn - CELLS);
            }
            together += spare.fallen();
        }
        return together;
    }

    // ---- slots

    public int keep(int slot) {
        if (!isSlot(slot)) {
            return UNKNOWN;
        }
        slots[slot].take(now);
        kept |= 1 << slot;
        return now.tilts;
    }

    public int again(int slot) {
        if (!isSlot(slot)) {
            return UNKNOWN;
        }
        if (bitOf(kept, slot) == 0) {
            return STATE;
        }
        now.take(slots[slot]);
        acts.forget();
        return now.tilts;
    }

    public int count(int what) {
        switch (what) {
            case 0:
                return letters;
            case 1:
                return tray.marbles;
            case 2:
                return tray.told[WALL];
            case 3:
                return tray.told[HOLE];
            case 4:
                return tray.told[FELT];
            case 5:
                return tray.told[MAGNET];
            case 6:
                return now.taken;
            case 7:
                return now.full;
            case 8:
                return now.wedged;
            case 9:
                return now.tilts;
            case 10:
                return acts.many;
            case 11:
                return sights.many;
            default:
                return OUTSIDE;
        }
    }

    // ---- reading THE TEXT

    /** Reads THE TEXT into the draft as far as it is a TABLE: the FAULT, or NONE. */
    private int readText() {
        draft.clear();
        if (letters == 0 || text[0] != 'T') {
            return 0;
        }
        int place = 1;
        while (place < letters) {
            int part = partTold(text[place]);
            if (part < 0 || !draft.hasRoom(part)) {
                return place;
            }
            int last = part == MARBLE ? place + 2 : place + 1;
            int wrong = readPart(part, place + 1, last);
            if (wrong != NONE) {
                return wrong;
            }
            place = last + 1;
        }
        return NONE;
    }

    /** Reads what is told behind a part's first letter, from its CELL to its last letter. */
    private int readPart(int part, int place, int last) {
        if (place >= letters) {
            return letters;
        }
        int cell = text[place] - 'a';
        if (!isCell(cell) || !draft.isUntold(cell)) {
            return place;
        }
        int kind = GLASS;
        if (last > place) {
            if (last >= letters) {
                return letters;
            }
            kind = text[last] - '0';
            if (kind < 0 || kind >= KINDS) {
                return last;
            }
        }
        draft.tell(part, cell, kind);
        return NONE;
    }

    private static int partTold(int letter) {
        switch (letter) {
            case 'M':
                return MARBLE;
            case 'W':
                return WALL;
            case 'O':
                return HOLE;
            case 'F':
                return FELT;
            case 'N':
                return MAGNET;
            default:
                return NONE;
        }
    }

    // ---- tilts that are only thought of

    private void tryTilt(int way) {
        spare.take(now);
        tray.roll(spare, way);
    }

    private int restOf(int marble, int way) {
        tryTilt(way);
        return spare.at[marble];
    }

    private int waysElsewhere(int marble) {
        int ways = 0;
        for (int way = 0; way < WAYS; way++) {
            if (restOf(marble, way) != now.at[marble]) {
                ways |= 1 << way;
            }
        }
        return ways;
    }

    private int waysOfFall(int marble) {
        int ways = 0;
        for (int way = 0; way < WAYS && !now.isIn(marble); way++) {
            if (restOf(marble, way) >= IN) {
                ways |= 1 << way;
            }
        }
        return ways;
    }

    private int leastSaving(int marble, int way) {
        for (int cell = 0; cell < CELLS; cell++) {
            if (bitOf(now.wedged, cell) == 0 && tray.wedgeRefusal(now, cell) == 0) {
                spare.take(now);
                spare.wedged |= 1 << cell;
                tray.roll(spare, way);
                if (!spare.isIn(marble)) {
                    return cell;
                }
            }
        }
        return NONE;
    }

    /** One doing of three figures on the spare spot: whether it can be, or is so. */
    private boolean doTold(int figures) {
        int rest = figures % 100;
        switch (figures / 100) {
            case 0:
                if (!isWay(rest)) {
                    return false;
                }
                tray.roll(spare, rest);
                return true;
            case 1:
                return tray.turnWedge(spare, rest);
            case 2:
                return isSo(rest / 10, rest % 10);
            default:
                return false;
        }
    }

    private boolean isSo(int marble, int told) {
        return tray.has(marble) && told == (spare.isIn(marble) ? 1 : 0);
    }

    // ---- shares, pairs and chances

    /** The worth of each group of MARBLES (bits): how many of it are IN HOLES by BEST of 2 TILTS. */
    private void weighGroups() {
        for (int group = 0; group < 1 << tray.marbles; group++) {
            spare.take(now);
            for (int marble = 0; marble < tray.marbles; marble++) {
                if (bitOf(group, marble) == 0) {
                    spare.leave(marble);
                }
            }
            search.findBest(tray, spare, 2);
            worth[group] = search.found;
        }
    }

    private void weighPairs() {
        for (int one = 0; one < WAYS; one++) {
            for (int other = 0; other < WAYS; other++) {
                tryTilt(one);
                tray.roll(spare, other);
                int less = one == other ? 1 : 0;
                pairs.tell(one, other, spare.fallenOf(0) - less, spare.fallenOf(1) - less);
            }
        }
    }

    private static boolean isRow(int n, int row) {
        if (row < 0 || row >= POWERS[n]) {
            return false;
        }
        for (int place = 0; place < n; place++) {
            if (!isWay(row / POWERS[place] % 10 - 1)) {
                return false;
            }
        }
        return true;
    }

    private static int weightOf(int n, int failing, int x) {
        int weight = 1;
        for (int place = 0; place < n; place++) {
            weight *= bitOf(failing, place) == 1 ? x : CHANCES - x;
        }
        return weight;
    }

    /** Whether a MARBLE is IN a HOLE behind a row of n TILTS of which some (bits) fail. */
    private boolean isInBehind(int marble, int n, int row, int failing) {
        spare.take(now);
        for (int place = 0; place < n; place++) {
            if (bitOf(failing, place) == 0) {
                tray.roll(spare, row / POWERS[n - 1 - place] % 10 - 1);
            }
        }
        return spare.isIn(marble);
    }

    private static int tellFraction(int above, int below, boolean upper) {
        int divisor = below;
        int left = Math.abs(above);
        for (int turn = 0; turn < 64 && left != 0; turn++) {
            int rest = divisor % left;
            divisor = left;
            left = rest;
        }
        if (divisor == 0) {
            return 0;
        }
        return (upper ? above : below) / divisor;
    }

    // ---- numbers

    private static boolean isCell(int cell) {
        return cell >= 0 && cell < CELLS;
    }

    private static boolean isWay(int way) {
        return way >= 0 && way < WAYS;
    }

    private static boolean isSlot(int slot) {
        return slot >= 0 && slot < SLOTS;
    }

    private static int bitOf(int bits, int place) {
        return bits >> place & 1;
    }

    /** The CELL that lies 1 further a way, or NOWHERE behind the rim. */
    private static int nextCell(int cell, int way) {
        switch (way) {
            case 0:
                return cell % SIDE == 0 ? NOWHERE : cell - 1;
            case 1:
                return cell % SIDE == SIDE - 1 ? NOWHERE : cell + 1;
            case 2:
                return cell < SIDE ? NOWHERE : cell - SIDE;
            case 3:
                return cell >= CELLS - SIDE ? NOWHERE : cell + SIDE;
            default:
                return NOWHERE;
        }
    }

    /** What THE TABLE tells: CELLS by part (as bits), MARBLES by number; and how a TILT goes on it. */
    private static final class Tray {
        /** In each round but the last at least one of 4 MARBLES goes one of its 4 CELLS at most. */
        private static final int ROUNDS = MARBLES * (SIDE - 1) + 1;

        final int[] told = new int[PARTS];
        final int[] kind = new int[MARBLES];
        final int[] start = new int[MARBLES];
        int marbles;
        /** CELLS BESIDE a MAGNET, as bits. */
        int drawn;

        void clear() {
            for (int part = 0; part < PARTS; part++) {
                told[part] = 0;
            }
            marbles = 0;
            drawn = 0;
        }

        boolean hasRoom(int part) {
            return Integer.bitCount(told[part]) < MOST_TOLD[part];
        }

        boolean isUntold(int cell) {
            return bitOf(told[MARBLE], cell) == 0 && isPlain(cell);
        }

        /** Whether nothing is told at a CELL but a MARBLE. */
        boolean isPlain(int cell) {
            return bitOf(told[WALL] | told[HOLE] | told[FELT] | told[MAGNET], cell) == 0;
        }

        void tell(int part, int cell, int kindTold) {
            told[part] |= 1 << cell;
            if (part == MARBLE && marbles < MARBLES) {
                kind[marbles] = kindTold;
                start[marbles] = cell;
                marbles++;
            }
            if (part == MAGNET) {
                drawAround(cell);
            }
        }

        private void drawAround(int cell) {
            for (int way = 0; way < WAYS; way++) {
                int next = nextCell(cell, way);
                if (next != NOWHERE) {
                    drawn |= 1 << next;
                }
            }
        }

        int partAt(int cell) {
            for (int part = WALL; part < PARTS; part++) {
                if (bitOf(told[part], cell) == 1) {
                    return part;
                }
            }
            return MARBLE;
        }

        boolean has(int marble) {
            return marble >= 0 && marble < marbles;
        }

        boolean canBe(Spot spot, int cell) {
            return bitOf(told[WALL] | told[MAGNET] | spot.taken | spot.wedged, cell) == 0;
        }

        boolean isOpenHole(Spot spot, int cell) {
            return bitOf(told[HOLE] & ~spot.full, cell) == 1;
        }

        int openHoles(Spot spot) {
            return Integer.bitCount(told[HOLE] & ~spot.full);
        }

        /** Why a CELL can not be WEDGED, or be so no more; 0: it can. */
        int wedgeRefusal(Spot spot, int cell) {
            if (!isCell(cell)) {
                return UNKNOWN;
            }
            if (!isPlain(cell) || bitOf(spot.taken, cell) == 1) {
                return STATE;
            }
            if (bitOf(spot.wedged, cell) == 0 && Integer.bitCount(spot.wedged) >= MOST_WEDGES) {
                return FULL;
            }
            return 0;
        }

        boolean turnWedge(Spot spot, int cell) {
            if (wedgeRefusal(spot, cell) != 0) {
                return false;
            }
            spot.wedged ^= 1 << cell;
            return true;
        }

        /** A TILT a way. */
        void roll(Spot spot, int way) {
            int stopped = stoppedAhead(spot);
            boolean went = true;
            for (int round = 0; round < ROUNDS && went; round++) {
                went = false;
                for (int marble = 0; marble < marbles; marble++) {
                    if (bitOf(stopped, marble) == 0 && goOn(spot, marble, way)) {
                        went = true;
                        if (stopsAt(marble, spot.at[marble])) {
                            stopped |= 1 << marble;
                        }
                    }
                }
            }
        }

        /** MARBLES (bits) that do not go at all: those not on THE TRAY, and IRON ones BESIDE a MAGNET. */
        private int stoppedAhead(Spot spot) {
            int stopped = 0;
            for (int marble = 0; marble < marbles; marble++) {
                int at = spot.at[marble];
                if (!isCell(at) || kind[marble] == IRON && bitOf(drawn, at) == 1) {
                    stopped |= 1 << marble;
                }
            }
            return stopped;
        }

        /** Lets a MARBLE on THE TRAY go 1 CELL, if it can be there: whether it went. */
        private boolean goOn(Spot spot, int marble, int way) {
            int next = nextCell(spot.at[marble], kind[marble] == CONTRARY ? way ^ 1 : way);
            if (next == NOWHERE || !canBe(spot, next)) {
                return false;
            }
            if (isOpenHole(spot, next)) {
                spot.drop(marble, next);
            } else {
                spot.put(marble, next);
            }
            return true;
        }

        /** Whether a MARBLE that has just come somewhere goes no further by this TILT. */
        private boolean stopsAt(int marble, int at) {
            if (!isCell(at)) {
                return true;
            }
            switch (kind[marble]) {
                case GLASS:
                    return false;
                case WAX:
                    return true;
                case IRON:
                    return bitOf(told[FELT] | drawn, at) == 1;
                default:
                    return bitOf(told[FELT], at) == 1;
            }
        }
    }

    /** Where MARBLES are, which HOLES are FULL, what is WEDGED, how many TILTS were made. */
    private static final class Spot {
        /** By MARBLE its CELL; IN and the HOLE's CELL; AWAY. */
        final int[] at = {AWAY, AWAY, AWAY, AWAY};
        /** CELLS of MARBLES on THE TRAY, as bits. */
        int taken;
        int full;
        int wedged;
        int tilts;

        void begin(Tray tray) {
            taken = tray.told[MARBLE];
            full = 0;
            wedged = 0;
            tilts = 0;
            for (int marble = 0; marble < MARBLES; marble++) {
                at[marble] = marble < tray.marbles ? tray.start[marble] : AWAY;
            }
        }

        void take(Spot other) {
            for (int marble = 0; marble < MARBLES; marble++) {
                at[marble] = other.at[marble];
            }
            taken = other.taken;
            full = other.full;
            wedged = other.wedged;
            tilts = other.tilts;
        }

        boolean hasSamePlaces(Spot other) {
            return at[0] == other.at[0] && at[1] == other.at[1] && at[2] == other.at[2] && at[3] == other.at[3];
        }

        boolean isIn(int marble) {
            return at[marble] >= IN;
        }

        int marbleAt(int cell) {
            for (int marble = 0; marble < MARBLES; marble++) {
                if (at[marble] == cell) {
                    return marble;
                }
            }
            return NONE;
        }

        /** How many MARBLES are IN HOLES. */
        int fallen() {
            return fallenOf(0) + fallenOf(1);
        }

        /** The same of those of even number (0), or of odd number (1). */
        int fallenOf(int first) {
            int many = 0;
            for (int marble = first; marble < MARBLES; marble += 2) {
                if (isIn(marble)) {
                    many++;
                }
            }
            return many;
        }

        /** Puts a MARBLE at another CELL; the HOLE that it was IN is not FULL any more. */
        void put(int marble, int cell) {
            if (at[marble] >= IN) {
                full &= ~(1 << (at[marble] - IN));
            } else {
                taken &= ~(1 << at[marble]);
            }
            at[marble] = cell;
            taken |= 1 << cell;
        }

        /** Lets a MARBLE on THE TRAY fall. */
        void drop(int marble, int hole) {
            taken &= ~(1 << at[marble]);
            at[marble] = IN + hole;
            full |= 1 << hole;
        }

        /** Sets a MARBLE aside; the HOLE that it is IN stays FULL. */
        void leave(int marble) {
            if (isCell(at[marble])) {
                taken &= ~(1 << at[marble]);
            }
            at[marble] = AWAY;
        }
    }

    /** THE ROW of ACTS: how all was ahead of each, the oldest one at first, in a ring. */
    private static final class Acts {
        private final Spot[] ahead = new Spot[MOST_ACTS];
        private int first;
        int many;

        Acts() {
            for (int act = 0; act < MOST_ACTS; act++) {
                ahead[act] = new Spot();
            }
        }

        void forget() {
            first = 0;
            many = 0;
        }

        void remember(Spot spot) {
            ahead[(first + many) % MOST_ACTS].take(spot);
            if (many < MOST_ACTS) {
                many++;
            } else {
                first = (first + 1) % MOST_ACTS;
            }
        }

        /** Makes a spot as it was ahead of the last ACT: how many are left. */
        int takeBack(Spot spot) {
            if (many == 0) {
                return STATE;
            }
            many--;
            spot.take(ahead[(first + many) % MOST_ACTS]);
            return many;
        }
    }

    /** What is SEEN of a lone GLASS marble. */
    private static final class Sights {
        private final int[] cell = new int[MOST_SEEN];
        private final int[] way = new int[MOST_SEEN];
        private final int[] came = new int[MOST_SEEN];
        int many;

        int add(int cellSeen, int waySeen, int cameSeen) {
            if (many >= MOST_SEEN) {
                return FULL;
            }
            cell[many] = cellSeen;
            way[many] = waySeen;
            came[many] = cameSeen;
            many++;
            return many;
        }

        /** Whether one WALL more, at a CELL, would do for all that is SEEN. */
        boolean agree(Tray tray, int wall) {
            int holes = tray.told[HOLE];
            int blocked = tray.told[WALL] | tray.told[MAGNET] | 1 << wall;
            for (int sight = 0; sight < many; sight++) {
                if (bitOf(blocked | holes, cell[sight]) == 1) {
                    return false;
                }
                if (comesTo(cell[sight], way[sight], blocked, holes) != came[sight]) {
                    return false;
                }
            }
            return true;
        }

        private static int comesTo(int from, int way, int blocked, int holes) {
            int at = from;
            for (int step = 0; step < SIDE; step++) {
                int next = nextCell(at, way);
                if (next == NOWHERE || bitOf(blocked, next) == 1) {
                    return at;
                }
                if (bitOf(holes, next) == 1) {
                    return FELL;
                }
                at = next;
            }
            return at;
        }
    }

    /** Looks through rows of TILTS, the least first; a level has the spot behind so many of them. */
    private static final class Search {
        private final Spot[] level = new Spot[MOST_FEWEST + 1];
        /** No row has more IN HOLES. */
        private int bound;
        int found;
        int row;

        Search() {
            for (int depth = 0; depth <= MOST_FEWEST; depth++) {
                level[depth] = new Spot();
            }
        }

        /** FEWEST, as found and row: whether there is such a row. */
        boolean findFewest(Tray tray, Spot from, int marble) {
            level[0].take(from);
            found = MOST_FEWEST + 1;
            row = 0;
            seekFall(tray, marble, 0, 0);
            return found <= MOST_FEWEST;
        }

        private void seekFall(Tray tray, int marble, int depth, int rowSoFar) {
            if (level[depth].isIn(marble)) {
                found = depth;
                row = rowSoFar;
                return;
            }
            if (depth >= MOST_FEWEST || tray.openHoles(level[depth]) == 0) {
                return;
            }
            // only a row shorter than the found one counts, and a fewest row has no TILT that moves nothing
            Spot next = level[depth + 1];
            for (int way = 0; way < WAYS && depth + 1 < found; way++) {
                next.take(level[depth]);
                tray.roll(next, way);
                if (!next.hasSamePlaces(level[depth])) {
                    seekFall(tray, marble, depth + 1, rowSoFar * 10 + way + 1);
                }
            }
        }

        /** REACH, as bits. */
        int findReach(Tray tray, Spot from, int marble) {
            level[0].take(from);
            return gatherCells(tray, marble, 0);
        }

        private int gatherCells(Tray tray, int marble, int depth) {
            int at = level[depth].at[marble];
            if (!isCell(at)) {
                return 0;
            }
            int cells = 1 << at;
            if (depth >= MOST_REACH) {
                return cells;
            }
            Spot next = level[depth + 1];
            for (int way = 0; way < WAYS; way++) {
                next.take(level[depth]);
                tray.roll(next, way);
                if (!next.hasSamePlaces(level[depth])) {
                    cells |= gatherCells(tray, marble, depth + 1);
                }
            }
            return cells;
        }

        /** BEST of n TILTS, as found and row. */
        void findBest(Tray tray, Spot from, int n) {
            level[0].take(from);
            found = -1;
            row = 0;
            bound = mostThatFall(tray, from);
            seekMost(tray, n, 0, 0);
        }

        private static int mostThatFall(Tray tray, Spot from) {
            return from.fallen() + Math.min(tray.openHoles(from), Integer.bitCount(from.taken));
        }

        private void seekMost(Tray tray, int n, int depth, int rowSoFar) {
            if (depth >= n || depth >= MOST_ROW) {
                int many = level[depth].fallen();
                if (many > found) {
                    found = many;
                    row = rowSoFar;
                }
                return;
            }
            Spot next = level[depth + 1];
            for (int way = 0; way < WAYS && found < bound; way++) {
                next.take(level[depth]);
                tray.roll(next, way);
                seekMost(tray, n, depth + 1, rowSoFar * 10 + way + 1);
            }
        }
    }

    /** What the one and the other one have by each pair of ways. */
    private static final class Pairs {
        private final int[] ofOne = new int[WAYS * WAYS];
        private final int[] ofOther = new int[WAYS * WAYS];

        void tell(int one, int other, int oneHas, int otherHas) {
            ofOne[one * WAYS + other] = oneHas;
            ofOther[one * WAYS + other] = otherHas;
        }

        boolean isAtRest(int one, int other) {
            for (int way = 0; way < WAYS; way++) {
                if (ofOne[way * WAYS + other] > ofOne[one * WAYS + other]
                        || ofOther[one * WAYS + way] > ofOther[one * WAYS + other]) {
                    return false;
                }
            }
            return true;
        }
    }
}
