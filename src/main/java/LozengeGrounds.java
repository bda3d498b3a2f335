import java.util.Arrays;

/** Grounds of triangles laid with lozenges; ../shared/DOC.md says what each call promises. */
public final class LozengeGrounds {
    public static final int UNKNOWN = -900001, OUTSIDE = -900002, STATE = -900003, FULL = -900004, SPENT = -900005, NONE = -900009;

    private static final int SIDE = 8;
    private static final int CELLS = SIDE * SIDE;
    private static final int KINDS = 3;
    private static final int SLOTS = 4;
    private static final int HEAVIEST = 99;
    private static final int REACH_LIMIT = 2000;
    // All numbers multiplied by product() are below 15, so they have no other primes.
    private static final int[] PRIMES = {2, 3, 5, 7, 11, 13};

    private final Land land;
    private final Steps steps;
    private final Joining joining;
    private final Turner turner;
    private final Laying[] slots;
    private final Laying spare;
    private final int[] weights;
    private final int[] worth;
    private boolean stepsStand;
    private boolean joiningStands;

    public LozengeGrounds() {
        land = new Land();
        steps = new Steps();
        joining = new Joining();
        turner = new Turner();
        slots = new Laying[SLOTS];
        for (int slot = 0; slot < SLOTS; slot++) {
            slots[slot] = new Laying();
        }
        spare = new Laying();
        weights = new int[CELLS * KINDS];
        worth = new int[CELLS * KINDS];
        land.shape(4, 4);
    }

    // ---- the ground

    public int ground(int w, int h) {
        if (w < 1 || w > SIDE || h < 1 || h > SIDE) {
            return OUTSIDE;
        }
        land.shape(w, h);
        forgetWeights();
        forgetGround();
        return land.cells;
    }

    public int hexagon(int a, int b, int c) {
        if (!hexagonFits(a, b, c)) {
            return OUTSIDE;
        }
        land.shapeHexagon(a, b, c);
        forgetWeights();
        forgetGround();
        return Long.bitCount(land.up) + Long.bitCount(land.down);
    }

    public int set(int triangle, boolean in) {
        if (!land.hasTriangle(triangle)) {
            return UNKNOWN;
        }
        boolean was = land.holds(triangle);
        if (was != in) {
            land.change(triangle);
            forgetGround();
        }
        return was ? 1 : 0;
    }

    public int isIn(int triangle) {
        if (!land.hasTriangle(triangle)) {
            return UNKNOWN;
        }
        return land.holds(triangle) ? 1 : 0;
    }

    public int ups(boolean up) {
        return Long.bitCount(up ? land.up : land.down);
    }

    public int size(int what) {
        if (what < 0 || what > 1) {
            return OUTSIDE;
        }
        return what == 0 ? land.w : land.h;
    }

    public long product(int a, int b, int c) {
        if (!hexagonFits(a, b, c)) {
            return OUTSIDE;
        }
        long all = 1;
        for (int prime : PRIMES) {
            int power = powerInProduct(a, b, c, prime);
            for (int i = 0; i < power; i++) {
                all *= prime;
            }
        }
        return all;
    }

    // ---- layings

    public long layings() {
        makeSteps();
        return steps.total();
    }

    public long with(int cell, int kind) {
        if (!land.hasCell(cell) || !isKind(kind)) {
            return UNKNOWN;
        }
        makeSteps();
        return steps.waysThrough(land, cell, kind);
    }

    public int kinds(int cell) {
        if (!land.hasCell(cell)) {
            return UNKNOWN;
        }
        makeSteps();
        return steps.kindSet(land, cell);
    }

    public int forced() {
        makeSteps();
        int alone = 0;
        for (int cell = 0; cell < land.cells; cell++) {
            if (Integer.bitCount(steps.kindSet(land, cell)) == 1) {
                alone++;
            }
        }
        return alone;
    }

    public int span(int kind, boolean most) {
        if (!isKind(kind)) {
            return UNKNOWN;
        }
        makeSteps();
        if (steps.total() == 0) {
            return NONE;
        }
        // The fewest are the dearest when each of that KIND costs one.
        int each = most ? 1 : -1;
        for (int i = 0; i < worth.length; i++) {
            worth[i] = i % KINDS == kind ? each : 0;
        }
        return each * steps.rank(land, worth);
    }

    public int weight(int cell, int kind, int v) {
        if (!land.hasCell(cell) || !isKind(kind)) {
            return UNKNOWN;
        }
        if (v < -HEAVIEST || v > HEAVIEST) {
            return OUTSIDE;
        }
        int was = weights[cell * KINDS + kind];
        weights[cell * KINDS + kind] = v;
        return was;
    }

    public int dearest() {
        makeSteps();
        if (steps.total() == 0) {
            return NONE;
        }
        return steps.rank(land, weights);
    }

    // ---- slots

    public int lay(int slot, long place) {
        if (!isSlot(slot)) {
            return UNKNOWN;
        }
        makeSteps();
        if (place < 0 || place >= steps.total()) {
            return OUTSIDE;
        }
        steps.walkTo(land, place, slots[slot]);
        return 1;
    }

    public int layDearest(int slot) {
        if (!isSlot(slot)) {
            return UNKNOWN;
        }
        makeSteps();
        if (steps.total() == 0) {
            return STATE;
        }
        int weighs = steps.rank(land, weights);
        steps.walkDearest(land, weights, slots[slot]);
        return weighs;
    }

    public int copy(int from, int to) {
        if (!isSlot(from) || !isSlot(to)) {
            return UNKNOWN;
        }
        if (!slots[from].held) {
            return STATE;
        }
        slots[to].take(slots[from]);
        return 1;
    }

    public long place(int slot) {
        if (!isSlot(slot)) {
            return UNKNOWN;
        }
        if (!slots[slot].held) {
            return STATE;
        }
        makeSteps();
        return steps.waysAhead(land, slots[slot]);
    }

    public int kind(int slot, int cell) {
        if (!isSlot(slot) || !land.hasCell(cell)) {
            return UNKNOWN;
        }
        if (!slots[slot].held) {
            return STATE;
        }
        int kind = slots[slot].kindAt(cell);
        return kind < 0 ? NONE : kind;
    }

    public int count(int slot, int kind) {
        if (!isSlot(slot) || !isKind(kind)) {
            return UNKNOWN;
        }
        if (!slots[slot].held) {
            return STATE;
        }
        return Long.bitCount(slots[slot].cellsOf(kind));
    }

    public int weighs(int slot) {
        if (!isSlot(slot)) {
            return UNKNOWN;
        }
        if (!slots[slot].held) {
            return STATE;
        }
        int sum = 0;
        for (int cell = 0; cell < land.cells; cell++) {
            int kind = slots[slot].kindAt(cell);
            if (kind >= 0) {
                sum += weights[cell * KINDS + kind];
            }
        }
        return sum;
    }

    public int point(int slot, int x, int y) {
        if (!isSlot(slot) || !land.hasPoint(x, y)) {
            return UNKNOWN;
        }
        Laying laying = slots[slot];
        if (!laying.held) {
            return STATE;
        }
        long at = land.pointBit(x, y);
        if ((land.inner & at) == 0) {
            return 0;
        }
        if ((laying.lows(land) & at) != 0) {
            return 2;
        }
        return (laying.highs(land) & at) != 0 ? 3 : 1;
    }

    public int free(int slot, boolean high) {
        if (!isSlot(slot)) {
            return UNKNOWN;
        }
        if (!slots[slot].held) {
            return STATE;
        }
        return Long.bitCount(high ? slots[slot].highs(land) : slots[slot].lows(land));
    }

    public int turn(int slot, int x, int y) {
        if (!isSlot(slot) || !land.hasPoint(x, y)) {
            return UNKNOWN;
        }
        Laying laying = slots[slot];
        long at = land.pointBit(x, y);
        if (!laying.held || ((laying.lows(land) | laying.highs(land)) & at) == 0) {
            return STATE;
        }
        boolean wasLow = (laying.lows(land) & at) != 0;
        laying.flip(at, land.w);
        return wasLow ? 1 : 0;
    }

    public int apart(int slot, int other) {
        if (!isSlot(slot) || !isSlot(other)) {
            return UNKNOWN;
        }
        if (!slots[slot].held || !slots[other].held) {
            return STATE;
        }
        int turns = turner.between(land, slots[slot], slots[other]);
        return turns < 0 ? NONE : turns;
    }

    public int end(int slot, boolean top) {
        if (!isSlot(slot)) {
            return UNKNOWN;
        }
        if (!slots[slot].held) {
            return STATE;
        }
        return turner.toEnd(land, slots[slot], top);
    }

    public int reach(int slot) {
        if (!isSlot(slot)) {
            return UNKNOWN;
        }
        if (!slots[slot].held) {
            return STATE;
        }
        int found = turner.family(land, slots[slot], REACH_LIMIT);
        return found > REACH_LIMIT ? SPENT : found;
    }

    public int mirror(int slot) {
        if (!isSlot(slot)) {
            return UNKNOWN;
        }
        Laying laying = slots[slot];
        if (!laying.held || !land.isSymmetric()) {
            return STATE;
        }
        spare.zero = land.across(laying.zero);
        spare.one = land.across(laying.two);
        spare.two = land.across(laying.one);
        spare.held = true;
        int same = Long.bitCount(laying.alikeIn(spare));
        laying.take(spare);
        return Long.bitCount(land.up) - same;
    }

    // ---- grounds that can not be laid

    public int most() {
        makeJoining();
        return joining.joined();
    }

    public int lack() {
        makeJoining();
        return Long.bitCount(land.up) + Long.bitCount(land.down) - 2 * joining.joined();
    }

    public int bar() {
        makeJoining();
        return joining.barring == 0 ? NONE : Long.bitCount(joining.barring);
    }

    public int barred(int i) {
        makeJoining();
        int seen = 0;
        for (int cell = 0; cell < land.cells; cell++) {
            if ((joining.barring >>> cell & 1) != 0) {
                if (seen == i) {
                    return cell;
                }
                seen++;
            }
        }
        return NONE;
    }

    // ---- what the calls share

    private static boolean isKind(int kind) {
        return kind >= 0 && kind < KINDS;
    }

    private static boolean isSlot(int slot) {
        return slot >= 0 && slot < SLOTS;
    }

    private static boolean hexagonFits(int a, int b, int c) {
        boolean sides = a >= 1 && a < SIDE && b >= 1 && b < SIDE && c >= 1 && c < SIDE;
        return sides && a + c <= SIDE && b + c <= SIDE;
    }

    /** The product's factors over all k leave (i + j + c - 1) by (i + j - 1). */
    private static int powerInProduct(int a, int b, int c, int prime) {
        int power = 0;
        for (int i = 1; i <= a; i++) {
            for (int j = 1; j <= b; j++) {
                power += powerIn(i + j + c - 1, prime) - powerIn(i + j - 1, prime);
            }
        }
        return power;
    }

    private static int powerIn(int number, int prime) {
        int power = 0;
        for (int all = prime; all > 1 && all <= number && number % all == 0; all *= prime) {
            power++;
        }
        return power;
    }

    private void forgetWeights() {
        Arrays.fill(weights, 0);
    }

    private void forgetGround() {
        for (int slot = 0; slot < SLOTS; slot++) {
            slots[slot].clear();
        }
        turner.forget();
        stepsStand = false;
        joiningStands = false;
    }

    private void makeSteps() {
        if (!stepsStand) {
            steps.build(land);
            stepsStand = true;
        }
    }

    private void makeJoining() {
        if (!joiningStands) {
            joining.solve(land);
            joiningStands = true;
        }
    }

    /** THE GROUND: sets of CELLS (and of the POINTS at their x, y) are longs, bit CELL. */
    private static final class Land {
        int w;
        int h;
        int cells;
        long up;
        long down;
        /** CELLS that have one before them in their row: only these can have KIND 1. */
        long east;
        long inner;

        void shape(int width, int height) {
            w = width;
            h = height;
            cells = width * height;
            east = 0;
            for (int y = 0; y < h; y++) {
                for (int x = 1; x < w; x++) {
                    east |= pointBit(x, y);
                }
            }
            up = -1L >>> (CELLS - cells);
            down = up;
            findInner();
        }

        void shapeHexagon(int a, int b, int c) {
            shape(a + c, b + c);
            up = 0;
            down = 0;
            for (int y = 0; y < h; y++) {
                for (int x = 0; x < w; x++) {
                    int sum = x + y;
                    if (sum >= c && sum + 1 <= a + b + c) {
                        up |= pointBit(x, y);
                    }
                    if (sum + 1 >= c && sum + 2 <= a + b + c) {
                        down |= pointBit(x, y);
                    }
                }
            }
            findInner();
        }

        boolean hasTriangle(int triangle) {
            return triangle >= 0 && triangle < 2 * cells;
        }

        boolean hasCell(int cell) {
            return cell >= 0 && cell < cells;
        }

        boolean hasPoint(int x, int y) {
            return x >= 0 && x <= w && y >= 0 && y <= h;
        }

        /** No bit for POINTS on the far sides: no CELL has its x, y there, and they are never INNER. */
        long pointBit(int x, int y) {
            return x < w && y < h ? 1L << (y * w + x) : 0;
        }

        boolean holds(int triangle) {
            long side = (triangle & 1) == 0 ? up : down;
            return (side >>> (triangle >> 1) & 1) != 0;
        }

        void change(int triangle) {
            long at = 1L << (triangle >> 1);
            if ((triangle & 1) == 0) {
                up ^= at;
            } else {
                down ^= at;
            }
            findInner();
        }

        void findInner() {
            long ups = up & up << 1 & up << w;
            long downs = down << 1 & down << w & down << (w + 1);
            inner = ups & downs & east;
        }

        boolean isSymmetric() {
            return w == h && across(up) == up && across(down) == down;
        }

        /** The set with x and y changed; for grounds that are as high as wide. */
        long across(long set) {
            long turned = 0;
            for (int y = 0; y < h; y++) {
                for (int x = 0; x < w; x++) {
                    if ((set & pointBit(x, y)) != 0) {
                        turned |= pointBit(y, x);
                    }
                }
            }
            return turned;
        }
    }

    /** The UP of each KIND, as sets; LOZENGES that leave some bare can be told so, too. */
    private static final class Laying {
        boolean held;
        long zero;
        long one;
        long two;

        void clear() {
            held = false;
            zero = 0;
            one = 0;
            two = 0;
        }

        void take(Laying other) {
            held = other.held;
            zero = other.zero;
            one = other.one;
            two = other.two;
        }

        long cellsOf(int kind) {
            return kind == 0 ? zero : kind == 1 ? one : two;
        }

        int kindAt(int cell) {
            if ((zero >>> cell & 1) != 0) {
                return 0;
            }
            if ((one >>> cell & 1) != 0) {
                return 1;
            }
            return (two >>> cell & 1) != 0 ? 2 : -1;
        }

        void put(long at, int kind) {
            zero = kind == 0 ? zero | at : zero & ~at;
            one = kind == 1 ? one | at : one & ~at;
            two = kind == 2 ? two | at : two & ~at;
        }

        boolean isLike(Laying other) {
            return zero == other.zero && one == other.one && two == other.two;
        }

        long alikeIn(Laying other) {
            return zero & other.zero | one & other.one | two & other.two;
        }

        long lows(Land land) {
            return land.inner & one & two << 1 & zero << land.w;
        }

        long highs(Land land) {
            return land.inner & two & zero << 1 & one << land.w;
        }

        /**
         * TURNS POINTS that are all LOW, or all HIGH: such POINTS have no UP in common, so
         * they can be TURNED at once, and the same bits change both ways.
         */
        void flip(long points, int w) {
            zero ^= points >>> 1 ^ points >>> w;
            one ^= points ^ points >>> w;
            two ^= points ^ points >>> 1;
        }
    }

    /**
     * All LAYINGS as ways through steps, CELL by CELL. A node stands ahead of a CELL and tells
     * which DOWN of the W CELLS before it are still open: bit 0 the last one's, bit W - 1 that
     * of the CELL a row before.
     */
    private static final class Steps {
        // As many DOWN are open ahead of a CELL whatever was laid: of 8 at most 70 such sets.
        static final int NODES = 70 * (CELLS + 1);
        static final int GONE = -1;

        final int[] first = new int[CELLS + 2];
        final int[] open = new int[NODES];
        final int[] next = new int[NODES * KINDS];
        final long[] onward = new long[NODES];
        final long[] hither = new long[NODES];
        final int[] best = new int[NODES];
        final int[] nodeOfOpen = new int[1 << SIDE];
        int nodes;

        void build(Land land) {
            nodes = 1;
            first[0] = 0;
            open[0] = 0;
            for (int cell = 0; cell < land.cells; cell++) {
                first[cell + 1] = nodes;
                Arrays.fill(nodeOfOpen, GONE);
                for (int node = first[cell]; node < first[cell + 1]; node++) {
                    for (int kind = 0; kind < KINDS; kind++) {
                        next[node * KINDS + kind] = nodeFor(openAfter(land, cell, open[node], kind));
                    }
                }
            }
            first[land.cells + 1] = nodes;
            countOnward(land);
            countHither(land);
        }

        /** What is open behind a CELL; GONE: that KIND can not be there. An UP that is OUT goes as KIND 0. */
        static int openAfter(Land land, int cell, int before, int kind) {
            int last = 1 << (land.w - 1);
            int kept = before;
            int added = (int) (land.down >>> cell & 1);
            if ((land.up >>> cell & 1) == 0) {
                if (kind != 0) {
                    return GONE;
                }
            } else if (kind == 0) {
                if (added == 0) {
                    return GONE;
                }
                added = 0;
            } else {
                int wanted = kind == 2 ? last : (int) (land.east >>> cell & 1);
                if ((before & wanted) == 0) {
                    return GONE;
                }
                kept = before ^ wanted;
            }
            // No later UP could be joined with the DOWN a row before.
            return (kept & last) != 0 ? GONE : kept << 1 | added;
        }

        int nodeFor(int opened) {
            if (opened < 0 || opened >= nodeOfOpen.length) {
                return GONE;
            }
            if (nodeOfOpen[opened] == GONE && nodes < NODES) {
                nodeOfOpen[opened] = nodes;
                open[nodes] = opened;
                nodes++;
            }
            return nodeOfOpen[opened];
        }

        /** Counts the ways from each node to the end, and cuts off what leads to none. */
        void countOnward(Land land) {
            for (int node = first[land.cells]; node < nodes; node++) {
                onward[node] = open[node] == 0 ? 1 : 0;
            }
            for (int node = first[land.cells] - 1; node >= 0; node--) {
                long sum = 0;
                for (int kind = 0; kind < KINDS; kind++) {
                    int to = next[node * KINDS + kind];
                    if (to >= 0 && onward[to] != 0) {
                        sum += onward[to];
                    } else {
                        next[node * KINDS + kind] = GONE;
                    }
                }
                onward[node] = sum;
            }
        }

        void countHither(Land land) {
            for (int node = 0; node < nodes; node++) {
                hither[node] = node == 0 ? 1 : 0;
            }
            for (int node = 0; node < first[land.cells]; node++) {
                for (int kind = 0; kind < KINDS; kind++) {
                    int to = next[node * KINDS + kind];
                    if (to >= 0) {
                        hither[to] += hither[node];
                    }
                }
            }
        }

        long total() {
            return onward[0];
        }

        long waysThrough(Land land, int cell, int kind) {
            if ((land.up >>> cell & 1) == 0) {
                return 0;
            }
            long sum = 0;
            for (int node = first[cell]; node < first[cell + 1]; node++) {
                int to = next[node * KINDS + kind];
                if (to >= 0) {
                    sum += hither[node] * onward[to];
                }
            }
            return sum;
        }

        int kindSet(Land land, int cell) {
            int set = 0;
            for (int kind = 0; kind < KINDS; kind++) {
                if (waysThrough(land, cell, kind) != 0) {
                    set |= 1 << kind;
                }
            }
            return set;
        }

        /** What the way that is worth most is worth, from each node on; there must be a LAYING. */
        int rank(Land land, int[] worth) {
            for (int node = first[land.cells]; node < nodes; node++) {
                best[node] = 0;
            }
            for (int cell = land.cells - 1; cell >= 0; cell--) {
                for (int node = first[cell]; node < first[cell + 1]; node++) {
                    int greatest = Integer.MIN_VALUE;
                    for (int kind = 0; kind < KINDS; kind++) {
                        if (next[node * KINDS + kind] >= 0) {
                            greatest = Math.max(greatest, worthBy(land, worth, cell, node, kind));
                        }
                    }
                    best[node] = greatest;
                }
            }
            return best[0];
        }

        /** What is worth most by a KIND from a node, that has a way on by it. */
        int worthBy(Land land, int[] worth, int cell, int node, int kind) {
            int own = (land.up >>> cell & 1) == 0 ? 0 : worth[cell * KINDS + kind];
            return own + best[next[node * KINDS + kind]];
        }

        void walkTo(Land land, long place, Laying laying) {
            laying.clear();
            laying.held = true;
            long left = place;
            int node = 0;
            for (int cell = 0; cell < land.cells && node >= 0; cell++) {
                int kind = 0;
                while (kind < KINDS - 1 && left >= onwardBy(node, kind)) {
                    left -= onwardBy(node, kind);
                    kind++;
                }
                node = step(land, laying, cell, node, kind);
            }
        }

        /** The first of the ways that rank() found best. */
        void walkDearest(Land land, int[] worth, Laying laying) {
            laying.clear();
            laying.held = true;
            int node = 0;
            for (int cell = 0; cell < land.cells && node >= 0; cell++) {
                int kind = 0;
                while (kind < KINDS - 1 && !isBest(land, worth, cell, node, kind)) {
                    kind++;
                }
                node = step(land, laying, cell, node, kind);
            }
        }

        boolean isBest(Land land, int[] worth, int cell, int node, int kind) {
            return next[node * KINDS + kind] >= 0
                && worthBy(land, worth, cell, node, kind) == best[node];
        }

        int step(Land land, Laying laying, int cell, int node, int kind) {
            if ((land.up >>> cell & 1) != 0) {
                laying.put(1L << cell, kind);
            }
            return next[node * KINDS + kind];
        }

        long onwardBy(int node, int kind) {
            int to = next[node * KINDS + kind];
            return to < 0 ? 0 : onward[to];
        }

        /** How many LAYINGS are ahead of this one. */
        long waysAhead(Land land, Laying laying) {
            long sum = 0;
            int node = 0;
            for (int cell = 0; cell < land.cells && node >= 0; cell++) {
                int kind = Math.max(0, laying.kindAt(cell));
                for (int lesser = 0; lesser < kind; lesser++) {
                    sum += onwardBy(node, lesser);
                }
                node = next[node * KINDS + kind];
            }
            return sum;
        }
    }

    /**
     * TURNS. LAYINGS that TURNS join have one BOTTOM; how often each POINT was TURNED up from it
     * tells them apart, and of two the greater number at each POINT is again one of them. So the
     * fewest TURNS between two are the sum of the differences.
     */
    private static final class Turner {
        // A POINT is TURNED up at most as often as it has steps to one that is not INNER: 4.
        static final int ROUNDS = 1000;
        // A LAYING is come to once and left once.
        static final int SEARCH = 10000;

        final Laying here = new Laying();
        final Laying there = new Laying();
        final Laying knownBottom = new Laying();
        final int[] tally = new int[CELLS];
        int knownFamily;

        void forget() {
            knownBottom.clear();
        }

        int toEnd(Land land, Laying laying, boolean top) {
            int turns = 0;
            for (int round = 0; round < ROUNDS; round++) {
                long points = top ? laying.lows(land) : laying.highs(land);
                if (points == 0) {
                    return turns;
                }
                turns += Long.bitCount(points);
                laying.flip(points, land.w);
            }
            return turns;
        }

        /** How many TURNS are between two; below 0: none lead from one to the other. */
        int between(Land land, Laying one, Laying other) {
            Arrays.fill(tally, 0);
            here.take(one);
            there.take(other);
            sinkTallied(land, here, 1);
            sinkTallied(land, there, -1);
            if (!here.isLike(there)) {
                return -1;
            }
            int turns = 0;
            for (int point = 0; point < CELLS; point++) {
                turns += Math.abs(tally[point]);
            }
            return turns;
        }

        void sinkTallied(Land land, Laying laying, int each) {
            for (int round = 0; round < ROUNDS; round++) {
                long points = laying.highs(land);
                if (points == 0) {
                    return;
                }
                for (int point = 0; point < CELLS; point++) {
                    if ((points >>> point & 1) != 0) {
                        tally[point] += each;
                    }
                }
                laying.flip(points, land.w);
            }
        }

        /** How many LAYINGS TURNS lead to, counted no further than one above the limit. */
        int family(Land land, Laying laying, int limit) {
            here.take(laying);
            toEnd(land, here, false);
            if (!knownBottom.held || !knownBottom.isLike(here)) {
                knownBottom.take(here);
                knownFamily = countFrom(land, limit);
            }
            return knownFamily;
        }

        /**
         * Goes from the BOTTOM, in here, through a tree of all: each but the BOTTOM hangs below
         * the one that its first HIGH POINT, TURNED, leads to. So none need be kept.
         */
        int countFrom(Land land, int limit) {
            int found = 1;
            long untried = -1L;
            for (int move = 0; move < SEARCH && found <= limit; move++) {
                long highs = here.highs(land);
                long point = firstBranch(here.lows(land) & untried, highs, land.w);
                if (point != 0) {
                    here.flip(point, land.w);
                    found++;
                    untried = -1L;
                } else if (highs == 0) {
                    return found;
                } else {
                    long back = highs & -highs;
                    here.flip(back, land.w);
                    untried = -back << 1;
                }
            }
            return found;
        }

        /** The first of the LOW points that, TURNED, would be the first HIGH one; 0: there is none. */
        static long firstBranch(long lows, long highs, int w) {
            long rest = lows;
            for (int i = 0; i < CELLS && rest != 0; i++) {
                long point = rest & -rest;
                // These two share an UP with the point: they would not be HIGH any more.
                long spoilt = point >>> 1 | point >>> (w - 1);
                if ((highs & (point - 1) & ~spoilt) == 0) {
                    return point;
                }
                rest ^= point;
            }
            return 0;
        }
    }

    /** THE MOST LOZENGES, by paths from bare UP to bare DOWN, and THE BAR where no such path is left. */
    private static final class Joining {
        final Laying laid = new Laying();
        final long[] layers = new long[CELLS + 1];
        long barring;

        void solve(Land land) {
            layGreedily(land);
            barring = 0;
            for (int i = 0; i < CELLS; i++) {
                int deep = search(land);
                if (deep < 0) {
                    return;
                }
                shift(land, deep);
            }
        }

        int joined() {
            return Long.bitCount(laid.zero | laid.one | laid.two);
        }

        void layGreedily(Land land) {
            laid.zero = land.up & land.down;
            long ups = land.up & ~laid.zero;
            long downs = land.down & ~laid.zero;
            laid.one = ups & land.east & downs << 1;
            laid.two = ups & ~laid.one & (downs & ~(laid.one >>> 1)) << land.w;
        }

        /**
         * Spreads from the bare UP by DOWN and what they are joined with; answers the layer that
         * has a bare DOWN beside it. Below 0: there is none, and THE BAR is all that was come to.
         */
        int search(Land land) {
            long bareDowns = land.down & ~(laid.zero | laid.one >>> 1 | laid.two >>> land.w);
            long come = land.up & ~(laid.zero | laid.one | laid.two);
            layers[0] = come;
            for (int deep = 0; deep < CELLS && layers[deep] != 0; deep++) {
                long beside = downsBeside(land, layers[deep]);
                if ((beside & bareDowns) != 0) {
                    layers[deep + 1] = beside & bareDowns;
                    return deep;
                }
                layers[deep + 1] = mates(land, beside) & ~come;
                come |= layers[deep + 1];
            }
            barring = come;
            return -1;
        }

        static long downsBeside(Land land, long ups) {
            return land.down & (ups | (ups & land.east) >>> 1 | ups >>> land.w);
        }

        long mates(Land land, long downs) {
            return laid.zero & downs | laid.one & downs << 1 | laid.two & downs << land.w;
        }

        /** Joins anew along one path, from a bare DOWN that stands behind the layers back to a bare UP. */
        void shift(Land land, int deep) {
            long down = layers[deep + 1] & -layers[deep + 1];
            for (int at = deep; at >= 0; at--) {
                long ups = layers[at];
                int kind = (ups & down) != 0 ? 0 : (ups & land.east & down << 1) != 0 ? 1 : 2;
                long up = kind == 0 ? down : kind == 1 ? down << 1 : down << land.w;
                long before = mateOf(land, up);
                laid.put(up, kind);
                down = before;
            }
        }

        long mateOf(Land land, long up) {
            return laid.zero & up | (laid.one & up) >>> 1 | (laid.two & up) >>> land.w;
        }
    }
}
