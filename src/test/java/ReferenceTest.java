import java.util.ArrayDeque;
import java.util.ArrayList;
import java.util.Arrays;
import java.util.HashMap;
import java.util.HashSet;
import java.util.List;
import java.util.Map;
import java.util.Random;
import java.util.Set;

/**
 * Compares every call with answers found by trying all: LAYINGS by backtracking, TURNS by going
 * from LAYING to LAYING, BARS by all sets of UP. Slow and plain on purpose. It goes beyond 512 calls
 * on an object, as this class answers them alike.
 */
public final class ReferenceTest {
    private static final int MANY = 4000;
    private static int wrong = 0;
    private static int compared = 0;

    private static void due(String call, long got, long want, Ground g) {
        compared++;
        if (got != want) {
            wrong++;
            if (wrong < 40) {
                System.out.println(call + " answered " + got + ", due is " + want + " on " + g);
            }
        }
    }

    private static final class Ground {
        final int w;
        final int h;
        final boolean[] in;
        final int[] weights;

        Ground(int w, int h) {
            this.w = w;
            this.h = h;
            in = new boolean[2 * w * h];
            weights = new int[3 * w * h];
        }

        int downOf(int cell, int kind) {
            int x = cell % w;
            int y = cell / w;
            if (kind == 1) {
                x--;
            }
            if (kind == 2) {
                y--;
            }
            return x < 0 || y < 0 ? -1 : 2 * (y * w + x) + 1;
        }

        boolean joins(int cell, int kind) {
            int down = downOf(cell, kind);
            return in[2 * cell] && down >= 0 && in[down];
        }

        boolean inner(int x, int y) {
            return x > 0 && x < w && y > 0 && y < h && in[up(x, y)] && in[up(x - 1, y)] && in[up(x, y - 1)]
                && in[up(x - 1, y) + 1] && in[up(x, y - 1) + 1] && in[up(x - 1, y - 1) + 1];
        }

        int up(int x, int y) {
            return 2 * (y * w + x);
        }

        /** All LAYINGS in order, as the KINDS of all CELLS (-1: OUT); null: too many. */
        List<int[]> layings() {
            List<int[]> all = new ArrayList<>();
            int[] kinds = new int[w * h];
            Arrays.fill(kinds, -1);
            tries = 0;
            return collect(0, kinds, new boolean[2 * w * h], all) ? all : null;
        }

        private int tries;

        private boolean collect(int cell, int[] kinds, boolean[] used, List<int[]> all) {
            if (++tries > 400000) {
                return false;
            }
            if (cell == w * h) {
                for (int t = 1; t < in.length; t += 2) {
                    if (in[t] && !used[t]) {
                        return true;
                    }
                }
                all.add(kinds.clone());
                return all.size() <= MANY;
            }
            if (!in[2 * cell]) {
                return collect(cell + 1, kinds, used, all);
            }
            for (int kind = 0; kind < 3; kind++) {
                int down = downOf(cell, kind);
                if (joins(cell, kind) && !used[down]) {
                    used[down] = true;
                    kinds[cell] = kind;
                    boolean fine = collect(cell + 1, kinds, used, all);
                    kinds[cell] = -1;
                    used[down] = false;
                    if (!fine) {
                        return false;
                    }
                }
            }
            return true;
        }

        int state(int[] kinds, int x, int y) {
            if (!inner(x, y)) {
                return 0;
            }
            int a = kinds[y * w + x];
            int b = kinds[y * w + x - 1];
            int c = kinds[(y - 1) * w + x];
            return a == 1 && b == 2 && c == 0 ? 2 : a == 2 && b == 0 && c == 1 ? 3 : 1;
        }

        int[] turned(int[] kinds, int x, int y) {
            boolean low = state(kinds, x, y) == 2;
            int[] now = kinds.clone();
            now[y * w + x] = low ? 2 : 1;
            now[y * w + x - 1] = low ? 0 : 2;
            now[(y - 1) * w + x] = low ? 1 : 0;
            return now;
        }

        List<int[]> around(int[] kinds, boolean lows, boolean highs) {
            List<int[]> next = new ArrayList<>();
            for (int y = 0; y <= h; y++) {
                for (int x = 0; x <= w; x++) {
                    int state = state(kinds, x, y);
                    if (state == 2 && lows || state == 3 && highs) {
                        next.add(turned(kinds, x, y));
                    }
                }
            }
            return next;
        }

        Map<String, Integer> distances(int[] from) {
            Map<String, Integer> far = new HashMap<>();
            ArrayDeque<int[]> queue = new ArrayDeque<>();
            far.put(Arrays.toString(from), 0);
            queue.add(from);
            while (!queue.isEmpty()) {
                int[] at = queue.remove();
                for (int[] to : around(at, true, true)) {
                    if (far.putIfAbsent(Arrays.toString(to), far.get(Arrays.toString(at)) + 1) == null) {
                        queue.add(to);
                    }
                }
            }
            return far;
        }

        int most() {
            int[] ownerOf = new int[in.length];
            Arrays.fill(ownerOf, -1);
            int joined = 0;
            for (int cell = 0; cell < w * h; cell++) {
                if (in[2 * cell] && augment(cell, ownerOf, new HashSet<>())) {
                    joined++;
                }
            }
            return joined;
        }

        private boolean augment(int cell, int[] ownerOf, Set<Integer> seen) {
            for (int kind = 0; kind < 3; kind++) {
                int down = downOf(cell, kind);
                if (joins(cell, kind) && seen.add(down)
                        && (ownerOf[down] < 0 || augment(ownerOf[down], ownerOf, seen))) {
                    ownerOf[down] = cell;
                    return true;
                }
            }
            return false;
        }

        int ins(int side) {
            int n = 0;
            for (int t = side; t < in.length; t += 2) {
                n += in[t] ? 1 : 0;
            }
            return n;
        }

        /** THE BAR by all sets of UP, as a set of CELLS; 0: none; -1: there were two like ones. */
        long bar() {
            long bestSet = 0;
            int bestGain = 0;
            boolean twice = false;
            for (long set = 1; set < 1L << (w * h); set++) {
                long downs = 0;
                boolean fine = true;
                for (int cell = 0; cell < w * h && fine; cell++) {
                    if ((set >>> cell & 1) != 0) {
                        fine = in[2 * cell];
                        for (int kind = 0; kind < 3; kind++) {
                            if (joins(cell, kind)) {
                                downs |= 1L << (downOf(cell, kind) / 2);
                            }
                        }
                    }
                }
                int gain = Long.bitCount(set) - Long.bitCount(downs);
                if (!fine || gain <= 0 || gain < bestGain) {
                    continue;
                }
                if (gain > bestGain || Long.bitCount(set) < Long.bitCount(bestSet)) {
                    bestGain = gain;
                    bestSet = set;
                    twice = false;
                } else if (Long.bitCount(set) == Long.bitCount(bestSet)) {
                    twice = true;
                }
            }
            return twice ? -1 : bestSet;
        }

        int weighs(int[] kinds) {
            int sum = 0;
            for (int cell = 0; cell < w * h; cell++) {
                sum += kinds[cell] < 0 ? 0 : weights[3 * cell + kinds[cell]];
            }
            return sum;
        }

        int[] mirrored(int[] kinds) {
            int[] now = new int[w * h];
            for (int y = 0; y < h; y++) {
                for (int x = 0; x < w; x++) {
                    int kind = kinds[y * w + x];
                    now[x * w + y] = kind == 1 ? 2 : kind == 2 ? 1 : kind;
                }
            }
            return now;
        }

        boolean symmetric() {
            if (w != h) {
                return false;
            }
            for (int y = 0; y < h; y++) {
                for (int x = 0; x < w; x++) {
                    if (in[up(x, y)] != in[up(y, x)] || in[up(x, y) + 1] != in[up(y, x) + 1]) {
                        return false;
                    }
                }
            }
            return true;
        }

        @Override
        public String toString() {
            StringBuilder text = new StringBuilder().append(w).append('x').append(h).append(' ');
            for (boolean one : in) {
                text.append(one ? '1' : '0');
            }
            return text.toString();
        }
    }

    // ---- grounds to try

    private static Ground random(Random dice, int side) {
        Ground g = new Ground(1 + dice.nextInt(side), 1 + dice.nextInt(side));
        int share = dice.nextInt(101);
        for (int t = 0; t < g.in.length; t++) {
            g.in[t] = dice.nextInt(100) < share;
        }
        return g;
    }

    /** A ground made of LOZENGES, so that it can be laid. */
    private static Ground ofLozenges(Random dice, int w, int h) {
        Ground g = new Ground(w, h);
        int skip = dice.nextInt(30);
        for (int n = 0; n < 40 * g.w * g.h; n++) {
            int cell = dice.nextInt(g.w * g.h);
            int down = g.downOf(cell, dice.nextInt(3));
            if (down >= 0 && !g.in[2 * cell] && !g.in[down] && dice.nextInt(100) >= skip) {
                g.in[2 * cell] = true;
                g.in[down] = true;
            }
        }
        return g;
    }

    private static Ground hexagonWithHoles(Random dice) {
        int c = 1 + dice.nextInt(4);
        int a = 1 + dice.nextInt(8 - c > 4 ? 4 : 8 - c);
        int b = 1 + dice.nextInt(8 - c > 4 ? 4 : 8 - c);
        Ground g = new Ground(a + c, b + c);
        for (int y = 0; y < g.h; y++) {
            for (int x = 0; x < g.w; x++) {
                g.in[g.up(x, y)] = x + y >= c && x + y + 1 <= a + b + c;
                g.in[g.up(x, y) + 1] = x + y + 1 >= c && x + y + 2 <= a + b + c;
            }
        }
        int holes = dice.nextInt(5);
        for (int i = 0; i < holes; i++) {
            int cell = dice.nextInt(g.w * g.h);
            int down = g.downOf(cell, dice.nextInt(3));
            if (down >= 0 && g.in[2 * cell] && g.in[down]) {
                g.in[2 * cell] = false;
                g.in[down] = false;
            }
        }
        return g;
    }

    private static Ground madeSymmetric(Ground from) {
        Ground g = new Ground(Math.min(from.w, from.h), Math.min(from.w, from.h));
        for (int y = 0; y < g.h; y++) {
            for (int x = 0; x <= y; x++) {
                for (int side = 0; side < 2; side++) {
                    g.in[g.up(x, y) + side] = from.in[from.up(x, y) + side];
                    g.in[g.up(y, x) + side] = from.in[from.up(x, y) + side];
                }
            }
        }
        return g;
    }

    // ---- comparing

    private static void put(LozengeGrounds x, Ground g, Random dice) {
        due("ground", x.ground(g.w, g.h), g.w * g.h, g);
        for (int t = 0; t < g.in.length; t++) {
            if (!g.in[t]) {
                due("set", x.set(t, false), 1, g);
            }
        }
        for (int i = 0; i < g.weights.length; i++) {
            g.weights[i] = dice.nextInt(7) == 0 ? dice.nextInt(199) - 99 : dice.nextInt(3) - 1;
            due("weight", x.weight(i / 3, i % 3, g.weights[i]), 0, g);
        }
    }

    private static void compareGround(LozengeGrounds x, Ground g) {
        for (int t = 0; t < g.in.length; t++) {
            due("isIn", x.isIn(t), g.in[t] ? 1 : 0, g);
        }
        due("ups(true)", x.ups(true), g.ins(0), g);
        due("ups(false)", x.ups(false), g.ins(1), g);
        due("size(0)", x.size(0), g.w, g);
        due("size(1)", x.size(1), g.h, g);
    }

    private static void compareBars(LozengeGrounds x, Ground g) {
        int most = g.most();
        due("most", x.most(), most, g);
        due("lack", x.lack(), g.ins(0) + g.ins(1) - 2 * most, g);
        if (g.w * g.h > 12) {
            due("bar none", x.bar() == LozengeGrounds.NONE ? 1 : 0, most == g.ins(0) ? 1 : 0, g);
            return;
        }
        long bar = g.bar();
        due("bar is one", bar == -1 ? 0 : 1, 1, g);
        due("bar", x.bar(), bar == 0 ? LozengeGrounds.NONE : Long.bitCount(bar), g);
        int i = 0;
        for (int cell = 0; cell < g.w * g.h; cell++) {
            if ((bar >>> cell & 1) != 0) {
                due("barred " + i, x.barred(i), cell, g);
                i++;
            }
        }
        due("barred " + i, x.barred(i), LozengeGrounds.NONE, g);
    }

    private static void compareLayings(LozengeGrounds x, Ground g, List<int[]> all) {
        due("layings", x.layings(), all.size(), g);
        int forced = 0;
        int[] least = {99, 99, 99};
        int[] greatest = {-1, -1, -1};
        long[] with = new long[3 * g.w * g.h];
        for (int[] kinds : all) {
            int[] count = new int[3];
            for (int cell = 0; cell < g.w * g.h; cell++) {
                if (kinds[cell] >= 0) {
                    count[kinds[cell]]++;
                    with[3 * cell + kinds[cell]]++;
                }
            }
            for (int kind = 0; kind < 3; kind++) {
                least[kind] = Math.min(least[kind], count[kind]);
                greatest[kind] = Math.max(greatest[kind], count[kind]);
            }
        }
        for (int cell = 0; cell < g.w * g.h; cell++) {
            int set = 0;
            for (int kind = 0; kind < 3; kind++) {
                due("with " + cell + " " + kind, x.with(cell, kind), with[3 * cell + kind], g);
                set |= with[3 * cell + kind] != 0 ? 1 << kind : 0;
            }
            due("kinds " + cell, x.kinds(cell), set, g);
            forced += Integer.bitCount(set) == 1 ? 1 : 0;
        }
        due("forced", x.forced(), forced, g);
        for (int kind = 0; kind < 3; kind++) {
            due("span least " + kind, x.span(kind, false), all.isEmpty() ? LozengeGrounds.NONE : least[kind], g);
            due("span most " + kind, x.span(kind, true), all.isEmpty() ? LozengeGrounds.NONE : greatest[kind], g);
        }
    }

    private static void compareDearest(LozengeGrounds x, Ground g, List<int[]> all) {
        if (all.isEmpty()) {
            due("dearest", x.dearest(), LozengeGrounds.NONE, g);
            due("layDearest", x.layDearest(0), LozengeGrounds.STATE, g);
            return;
        }
        int best = 0;
        for (int i = 1; i < all.size(); i++) {
            if (g.weighs(all.get(i)) > g.weighs(all.get(best))) {
                best = i;
            }
        }
        due("dearest", x.dearest(), g.weighs(all.get(best)), g);
        due("layDearest", x.layDearest(3), g.weighs(all.get(best)), g);
        due("place of the dearest", x.place(3), best, g);
        compareHeld(x, 3, g, all.get(best));
    }

    private static void compareHeld(LozengeGrounds x, int slot, Ground g, int[] kinds) {
        int[] count = new int[3];
        for (int cell = 0; cell < g.w * g.h; cell++) {
            due("kind " + cell, x.kind(slot, cell), kinds[cell] < 0 ? LozengeGrounds.NONE : kinds[cell], g);
            if (kinds[cell] >= 0) {
                count[kinds[cell]]++;
            }
        }
        for (int kind = 0; kind < 3; kind++) {
            due("count " + kind, x.count(slot, kind), count[kind], g);
        }
        due("weighs", x.weighs(slot), g.weighs(kinds), g);
        int[] free = new int[4];
        for (int y = 0; y <= g.h; y++) {
            for (int px = 0; px <= g.w; px++) {
                due("point " + px + " " + y, x.point(slot, px, y), g.state(kinds, px, y), g);
                free[g.state(kinds, px, y)]++;
            }
        }
        due("free low", x.free(slot, false), free[2], g);
        due("free high", x.free(slot, true), free[3], g);
    }

    private static int indexOf(List<int[]> all, int[] kinds) {
        for (int i = 0; i < all.size(); i++) {
            if (Arrays.equals(all.get(i), kinds)) {
                return i;
            }
        }
        return -1;
    }

    private static void compareTurns(LozengeGrounds x, Ground g, List<int[]> all, Random dice) {
        int at = dice.nextInt(all.size());
        int[] kinds = all.get(at);
        due("lay", x.lay(0, at), 1, g);
        due("place", x.place(0), at, g);
        compareHeld(x, 0, g, kinds);
        Map<String, Integer> far = g.distances(kinds);
        due("reach", x.reach(0), far.size() > 2000 ? LozengeGrounds.SPENT : far.size(), g);
        for (int i = 0; i < 60; i++) {
            int other = all.size() <= 60 ? i % all.size() : dice.nextInt(all.size());
            due("lay", x.lay(1, other), 1, g);
            int turns = far.getOrDefault(Arrays.toString(all.get(other)), LozengeGrounds.NONE);
            due("apart", x.apart(0, 1), turns, g);
            due("apart back", x.apart(1, 0), turns, g);
        }
        for (int y = 0; y <= g.h; y++) {
            for (int px = 0; px <= g.w; px++) {
                due("copy", x.copy(0, 2), 1, g);
                int state = g.state(kinds, px, y);
                due("turn " + px + " " + y, x.turn(2, px, y), state < 2 ? LozengeGrounds.STATE : 3 - state, g);
                if (state >= 2) {
                    due("place turned", x.place(2), indexOf(all, g.turned(kinds, px, y)), g);
                } else {
                    due("place not turned", x.place(2), at, g);
                }
            }
        }
        compareEnd(x, g, all, kinds, true);
        compareEnd(x, g, all, kinds, false);
        compareMirror(x, g, all, kinds);
        due("place of what was not changed", x.place(0), at, g);
    }

    private static void compareEnd(LozengeGrounds x, Ground g, List<int[]> all, int[] kinds, boolean top) {
        int turns = 0;
        int[] end = kinds;
        List<int[]> next = g.around(end, top, !top);
        while (!next.isEmpty()) {
            end = next.get(next.size() - 1);
            turns++;
            next = g.around(end, top, !top);
        }
        due("copy", x.copy(0, 2), 1, g);
        due("end " + top, x.end(2, top), turns, g);
        due("place of the end", x.place(2), indexOf(all, end), g);
    }

    private static void compareMirror(LozengeGrounds x, Ground g, List<int[]> all, int[] kinds) {
        due("copy", x.copy(0, 2), 1, g);
        if (!g.symmetric()) {
            due("mirror", x.mirror(2), LozengeGrounds.STATE, g);
            due("place not mirrored", x.place(2), indexOf(all, kinds), g);
            return;
        }
        int[] now = g.mirrored(kinds);
        int changed = 0;
        for (int cell = 0; cell < g.w * g.h; cell++) {
            changed += now[cell] != kinds[cell] ? 1 : 0;
        }
        due("mirror", x.mirror(2), changed, g);
        due("place mirrored", x.place(2), indexOf(all, now), g);
    }

    private static int compare(LozengeGrounds x, Ground g, Random dice) {
        put(x, g, dice);
        compareGround(x, g);
        compareBars(x, g);
        List<int[]> all = g.layings();
        if (all == null) {
            return -1;
        }
        compareLayings(x, g, all);
        compareDearest(x, g, all);
        if (!all.isEmpty()) {
            compareTurns(x, g, all, dice);
        }
        return all.size();
    }

    private static void comparePlaces() {
        for (int a = 1; a <= 7; a++) {
            for (int b = 1; b <= 7; b++) {
                for (int c = 1; a + c <= 8 && b + c <= 8; c++) {
                    LozengeGrounds x = new LozengeGrounds();
                    Ground g = new Ground(a + c, b + c);
                    due("hexagon", x.hexagon(a, b, c), 2 * (a * b + b * c + c * a), g);
                    due("product " + a + " " + b + " " + c, x.product(a, b, c), x.layings(), g);
                    long step = Math.max(1, x.layings() / 50);
                    for (long place = 0; place < x.layings(); place += step) {
                        due("lay", x.lay(0, place), 1, g);
                        due("place", x.place(0), place, g);
                    }
                }
            }
        }
    }

    public static void main(String[] args) {
        Random dice = new Random(20261118);
        int laid = 0;
        int skipped = 0;
        // One object for many grounds: what it kept of one must not be seen on the next.
        LozengeGrounds used = new LozengeGrounds();
        for (int i = 0; i < 1750; i++) {
            Ground g = switch (i % 7) {
                case 0 -> random(dice, 4);
                case 1 -> ofLozenges(dice, 1 + dice.nextInt(5), 1 + dice.nextInt(5));
                case 2 -> ofLozenges(dice, 1 + dice.nextInt(8), 1 + dice.nextInt(8));
                case 3 -> hexagonWithHoles(dice);
                case 4 -> madeSymmetric(hexagonWithHoles(dice));
                case 5 -> ofLozenges(dice, 8, 8);
                default -> random(dice, 8);
            };
            int size = compare(i % 2 == 0 ? used : new LozengeGrounds(), g, dice);
            laid += size > 1 ? 1 : 0;
            skipped += size < 0 ? 1 : 0;
        }
        comparePlaces();
        System.out.println(compared + " answers compared, " + laid + " grounds with several layings, "
            + skipped + " with too many; " + wrong + " are not as due");
        if (wrong != 0) {
            System.exit(1);
        }
    }
}
