import java.util.ArrayList;
import java.util.List;
import java.util.function.Supplier;

/**
 * The document's sentences on REFUSALS: which numbers there are and which not, on the smallest and
 * the largest grounds; which refusal comes first; that what is refused changes nothing; and that
 * refusals told as longs are the same numbers. No object here is used for more than 512 calls.
 */
public final class RefusalsTest {
    private static final int UNKNOWN = LozengeGrounds.UNKNOWN;
    private static final int OUTSIDE = LozengeGrounds.OUTSIDE;
    private static final int STATE = LozengeGrounds.STATE;
    private static final int SPENT = LozengeGrounds.SPENT;
    private static final int NONE = LozengeGrounds.NONE;
    private static final int LEAST = Integer.MIN_VALUE;
    private static final int GREATEST = Integer.MAX_VALUE;
    private static final int[] NO_SLOTS = {-1, 4, 5, 64, LEAST, GREATEST};
    // The last two, times 3 or times 2, wrap around to a number that is small again.
    private static final int[] FAR = {-1, LEAST, GREATEST, 1431655766, 1 << 31 | 1};
    private static final int PARTS = 7;

    private static int wrong = 0;

    private static void due(String what, long got, long want) {
        if (got != want) {
            wrong++;
            if (wrong < 60) {
                System.out.println(what + " answered " + got + ", due is " + want);
            }
        }
    }

    private interface Call {
        long on(LozengeGrounds x);
    }

    private record Refused(String name, long want, Call call) { }

    // ---- scenes: objects made the same way each time

    private static LozengeGrounds ground(int w, int h) {
        LozengeGrounds x = new LozengeGrounds();
        x.ground(w, h);
        return x;
    }

    private static LozengeGrounds hexagon(int a, int b, int c) {
        LozengeGrounds x = new LozengeGrounds();
        x.hexagon(a, b, c);
        return x;
    }

    /** SLOTS 0 and 2 hold LAYINGS, 1 and 3 none; some WEIGHTS. */
    private static LozengeGrounds fill(LozengeGrounds x) {
        x.weight(0, 0, -5);
        x.weight(1, 1, 9);
        x.weight(x.size(0) * x.size(1) - 1, 2, 99);
        x.lay(0, x.layings() / 2);
        x.lay(2, x.layings() - 1);
        return x;
    }

    /** A hexagon that is not like its MIRROR: the UP and the DOWN of one CELL are OUT. */
    private static LozengeGrounds crooked() {
        LozengeGrounds x = hexagon(2, 2, 2);
        x.set(12, false);
        x.set(13, false);
        return fill(x);
    }

    /** No LAYING: a DOWN is OUT. */
    private static LozengeGrounds barredGround() {
        LozengeGrounds x = hexagon(2, 2, 2);
        x.weight(5, 1, 7);
        x.set(11, false);
        return x;
    }

    private static LozengeGrounds emptied(int w, int h) {
        LozengeGrounds x = ground(w, h);
        for (int t = 0; t < 2 * w * h; t++) {
            x.set(t, false);
        }
        return x;
    }

    /** What was asked before may be kept inside; a refusal must not spoil it either. */
    private static LozengeGrounds asked(LozengeGrounds x) {
        x.forced();
        x.dearest();
        x.bar();
        x.reach(0);
        x.reach(2);
        return x;
    }

    // ---- all that an object tells, in parts, so that 512 calls are enough for each

    private static List<Long> told(LozengeGrounds x, int part) {
        List<Long> all = new ArrayList<>();
        int cells = x.size(0) * x.size(1);
        switch (part) {
            case 0 -> tellGround(x, cells, all);
            case 1 -> tellLayings(x, cells, all);
            case 2 -> tellWeights(x, cells, all);
            default -> tellSlot(x, part - 3, cells, all);
        }
        return all;
    }

    private static void tellGround(LozengeGrounds x, int cells, List<Long> all) {
        all.add((long) x.size(0));
        all.add((long) x.size(1));
        all.add((long) x.ups(true));
        all.add((long) x.ups(false));
        for (int t = 0; t < 2 * cells; t++) {
            all.add((long) x.isIn(t));
        }
        all.add((long) x.most());
        all.add((long) x.lack());
        all.add((long) x.bar());
        for (int i = -1; i <= cells; i++) {
            all.add((long) x.barred(i));
        }
    }

    private static void tellLayings(LozengeGrounds x, int cells, List<Long> all) {
        all.add(x.layings());
        all.add((long) x.forced());
        for (int kind = 0; kind < 3; kind++) {
            all.add((long) x.span(kind, false));
            all.add((long) x.span(kind, true));
            for (int cell = 0; cell < cells; cell++) {
                all.add(x.with(cell, kind));
            }
        }
        for (int cell = 0; cell < cells; cell++) {
            all.add((long) x.kinds(cell));
        }
    }

    private static void tellWeights(LozengeGrounds x, int cells, List<Long> all) {
        all.add((long) x.dearest());
        all.add((long) x.weighs(0));
        all.add((long) x.weighs(2));
        for (int i = 0; i < 3 * cells; i++) {
            all.add((long) x.weight(i / 3, i % 3, 0));
        }
    }

    private static void tellSlot(LozengeGrounds x, int slot, int cells, List<Long> all) {
        all.add(x.place(slot));
        all.add((long) x.weighs(slot));
        all.add((long) x.reach(slot));
        for (int other = 0; other < 4; other++) {
            all.add((long) x.apart(slot, other));
        }
        for (int kind = 0; kind < 3; kind++) {
            all.add((long) x.count(slot, kind));
        }
        for (int cell = 0; cell < cells; cell++) {
            all.add((long) x.kind(slot, cell));
        }
        for (int y = 0; y <= x.size(1); y++) {
            for (int px = 0; px <= x.size(0); px++) {
                all.add((long) x.point(slot, px, y));
            }
        }
        all.add((long) x.free(slot, false));
        all.add((long) x.free(slot, true));
        all.add((long) x.end(slot, true));
        all.add(x.place(slot));
        all.add((long) x.end(slot, false));
        all.add(x.place(slot));
    }

    /** Each call on objects of the scene: the refusal that is due, and all told as if it had not been called. */
    private static void refuse(String scene, Supplier<LozengeGrounds> made, List<Refused> calls) {
        List<List<Long>> before = new ArrayList<>();
        for (int part = 0; part < PARTS; part++) {
            before.add(told(made.get(), part));
        }
        for (Refused r : calls) {
            for (int part = 0; part < PARTS; part++) {
                LozengeGrounds fresh = made.get();
                due(scene + ": " + r.name, r.call.on(fresh), r.want);
                same(scene + ": what is told (" + part + ") behind " + r.name, told(fresh, part), before.get(part));
                LozengeGrounds known = asked(made.get());
                due(scene + ", asked: " + r.name, r.call.on(known), r.want);
                same(scene + ", asked: what is told (" + part + ") behind " + r.name, told(known, part), before.get(part));
            }
        }
    }

    private static void same(String what, List<Long> got, List<Long> want) {
        due(what + ": how much", got.size(), want.size());
        for (int i = 0; i < got.size() && i < want.size(); i++) {
            due(what + ": row " + i, got.get(i), want.get(i));
        }
    }

    private static void add(List<Refused> calls, String name, long want, Call call) {
        calls.add(new Refused(name, want, call));
    }

    // ---- 'W by H CELLS (1 to 8 each)'

    private static final int[] SIDES = {LEAST, -8, -1, 0, 1, 8, 9, 65536, GREATEST};

    private static void sidesOfGround() {
        for (int w : SIDES) {
            for (int h : SIDES) {
                boolean fits = w >= 1 && w <= 8 && h >= 1 && h <= 8;
                LozengeGrounds x = new LozengeGrounds();
                due("ground(" + w + ", " + h + ")", x.ground(w, h), fits ? w * h : OUTSIDE);
                due("size(0) then", x.size(0), fits ? w : 4);
                due("size(1) then", x.size(1), fits ? h : 4);
                due("UP then", x.ups(true), fits ? w * h : 16);
                due("DOWN then", x.ups(false), fits ? w * h : 16);
            }
        }
    }

    private static void addGrounds(List<Refused> calls) {
        for (int bad : new int[] {LEAST, -1, 0, 9, GREATEST}) {
            add(calls, "ground(" + bad + ", 8)", OUTSIDE, x -> x.ground(bad, 8));
            add(calls, "ground(1, " + bad + ")", OUTSIDE, x -> x.ground(1, bad));
        }
        add(calls, "ground(65536, 65536)", OUTSIDE, x -> x.ground(65536, 65536));
        for (int bad : new int[] {LEAST, -1, 2, GREATEST}) {
            add(calls, "size(" + bad + ")", OUTSIDE, x -> x.size(bad));
        }
    }

    // ---- THE HEXAGON: 'a, b, c (1 to 7 each, a and c together 8 at most, b and c likewise)'

    private static boolean hexagonFits(int a, int b, int c) {
        boolean each = Math.min(a, Math.min(b, c)) >= 1 && Math.max(a, Math.max(b, c)) <= 7;
        return each && (long) a + c <= 8 && (long) b + c <= 8;
    }

    private static void boundsOfHexagon() {
        for (int a = -1; a <= 9; a++) {
            for (int b = -1; b <= 9; b++) {
                LozengeGrounds x = new LozengeGrounds();
                for (int c = -1; c <= 9; c++) {
                    String name = "(" + a + ", " + b + ", " + c + ")";
                    boolean fits = hexagonFits(a, b, c);
                    due("hexagon" + name, x.hexagon(a, b, c), fits ? 2 * (a * b + b * c + c * a) : OUTSIDE);
                    due("product" + name, x.product(a, b, c), fits ? x.layings() : OUTSIDE);
                    due("size(0) behind hexagon" + name, fits ? x.size(0) - a - c : 0, 0);
                    due("size(1) behind hexagon" + name, fits ? x.size(1) - b - c : 0, 0);
                }
            }
        }
    }

    /** Each bound kept by a hexagon and passed by its neighbour, one at a time. */
    private static int[][] justOutside() {
        return new int[][] {{0, 7, 1}, {7, 0, 1}, {1, 1, 0}, {7, 7, 0}, {8, 7, 1}, {7, 8, 1}, {1, 1, 8}, {7, 1, 2},
            {1, 7, 2}, {2, 1, 7}, {1, 2, 7}, {5, 4, 4}, {4, 5, 4}, {4, 4, 5}, {-1, 4, 4}, {4, -1, 4}, {4, 4, -1}, {9, 1, -1}};
    }

    /** Sums that pass an int's range, and are small numbers then. */
    private static int[][] farOutside() {
        return new int[][] {{GREATEST, 1, 1}, {1, GREATEST, 1}, {1, 1, GREATEST}, {GREATEST, GREATEST, GREATEST},
            {LEAST, 1, 1}, {1, LEAST, 1}, {1, 1, LEAST}, {LEAST, LEAST, LEAST}, {GREATEST, GREATEST, LEAST + 5},
            {LEAST, LEAST, LEAST + 4}, {GREATEST, GREATEST, 7}, {GREATEST - 2, 3, GREATEST - 2}, {3, GREATEST - 2, GREATEST - 2}};
    }

    private static void addHexagons(List<Refused> calls, int[][] all) {
        for (int[] s : all) {
            String name = "(" + s[0] + ", " + s[1] + ", " + s[2] + ")";
            add(calls, "hexagon" + name, OUTSIDE, x -> x.hexagon(s[0], s[1], s[2]));
            add(calls, "product" + name, OUTSIDE, x -> x.product(s[0], s[1], s[2]));
        }
    }

    // ---- 'UNKNOWN (there is no such TRIANGLE, CELL, KIND, SLOT, POINT)'

    /** The last that there is, and the one behind it, on grounds of all extreme sizes. */
    private static void lastOnes() {
        for (int[] s : new int[][] {{1, 1}, {8, 8}, {1, 8}, {8, 1}, {3, 2}, {4, 4}}) {
            lastTriangle(ground(s[0], s[1]), s[0] * s[1]);
            lastCell(ground(s[0], s[1]), s[0] * s[1]);
            lastPoint(ground(s[0], s[1]), s[0], s[1]);
            lastKindAndSlot(ground(s[0], s[1]));
        }
    }

    private static void lastTriangle(LozengeGrounds x, int cells) {
        String on = " of " + cells + " CELLS";
        due("isIn(0)" + on, x.isIn(0), 1);
        due("isIn of the last" + on, x.isIn(2 * cells - 1), 1);
        due("isIn behind the last" + on, x.isIn(2 * cells), UNKNOWN);
        due("set behind the last" + on, x.set(2 * cells, false), UNKNOWN);
        due("set behind the last" + on, x.set(2 * cells, true), UNKNOWN);
        for (int t : FAR) {
            due("isIn(" + t + ")" + on, x.isIn(t), UNKNOWN);
            due("set(" + t + ", false)" + on, x.set(t, false), UNKNOWN);
            due("set(" + t + ", true)" + on, x.set(t, true), UNKNOWN);
        }
        due("all are IN still" + on, x.ups(true) + x.ups(false), 2 * cells);
        due("set of the last" + on, x.set(2 * cells - 1, false), 1);
        due("isIn of the last" + on, x.isIn(2 * cells - 1), 0);
        due("set of the first" + on, x.set(0, false), 1);
        due("isIn of the first" + on, x.isIn(0), 0);
        due("two are OUT" + on, x.ups(true) + x.ups(false), 2 * cells - 2);
    }

    private static void lastCell(LozengeGrounds x, int cells) {
        String on = " of " + cells + " CELLS";
        x.lay(0, 0);
        for (int cell : new int[] {0, cells - 1}) {
            due("with(" + cell + ", 0)" + on, x.with(cell, 0), 1);
            due("kinds(" + cell + ")" + on, x.kinds(cell), 1);
            due("weight(" + cell + ", 2, 1)" + on, x.weight(cell, 2, 1), 0);
            due("weight(" + cell + ", 2, 0)" + on, x.weight(cell, 2, 0), 1);
            due("kind(0, " + cell + ")" + on, x.kind(0, cell), 0);
        }
        for (int i = 0; i <= FAR.length; i++) {
            int cell = i < FAR.length ? FAR[i] : cells;
            due("with(" + cell + ", 0)" + on, x.with(cell, 0), UNKNOWN);
            due("kinds(" + cell + ")" + on, x.kinds(cell), UNKNOWN);
            due("weight(" + cell + ", 2, 1)" + on, x.weight(cell, 2, 1), UNKNOWN);
            due("kind(0, " + cell + ")" + on, x.kind(0, cell), UNKNOWN);
        }
    }

    /** 'x 0 to W, y 0 to H'; some that there are not would have the number of one that there is. */
    private static void lastPoint(LozengeGrounds x, int w, int h) {
        String on = " of " + w + " by " + h;
        x.lay(0, 0);
        for (int y = -2; y <= h + 2; y++) {
            for (int px = -2; px <= w + 2; px++) {
                boolean there = px >= 0 && px <= w && y >= 0 && y <= h;
                boolean inner = px > 0 && px < w && y > 0 && y < h;
                due("point(0, " + px + ", " + y + ")" + on, x.point(0, px, y), there ? inner ? 1 : 0 : UNKNOWN);
                due("turn(0, " + px + ", " + y + ")" + on, x.turn(0, px, y), there ? STATE : UNKNOWN);
            }
        }
        for (int far : FAR) {
            due("point(0, " + far + ", 0)" + on, x.point(0, far, 0), UNKNOWN);
            due("point(0, 0, " + far + ")" + on, x.point(0, 0, far), UNKNOWN);
            due("turn(0, " + far + ", 0)" + on, x.turn(0, far, 0), UNKNOWN);
            due("turn(0, 0, " + far + ")" + on, x.turn(0, 0, far), UNKNOWN);
        }
    }

    private static void lastKindAndSlot(LozengeGrounds x) {
        for (int slot = 0; slot < 4; slot++) {
            due("lay(" + slot + ", 0)", x.lay(slot, 0), 1);
        }
        int cells = x.size(0) * x.size(1);
        for (int kind = 0; kind < 3; kind++) {
            int all = kind == 0 ? cells : 0;
            due("with(0, " + kind + ")", x.with(0, kind), kind == 0 ? 1 : 0);
            due("span(" + kind + ", true)", x.span(kind, true), all);
            due("span(" + kind + ", false)", x.span(kind, false), all);
            due("weight(0, " + kind + ", 0)", x.weight(0, kind, 0), 0);
            due("count(3, " + kind + ")", x.count(3, kind), all);
        }
        for (int i = 0; i <= FAR.length; i++) {
            int kind = i < FAR.length ? FAR[i] : 3;
            due("with(0, " + kind + ")", x.with(0, kind), UNKNOWN);
            due("span(" + kind + ", true)", x.span(kind, true), UNKNOWN);
            due("span(" + kind + ", false)", x.span(kind, false), UNKNOWN);
            due("weight(0, " + kind + ", 0)", x.weight(0, kind, 0), UNKNOWN);
            due("count(3, " + kind + ")", x.count(3, kind), UNKNOWN);
        }
    }

    private static void addNumbers(List<Refused> calls, int cells) {
        for (int bad : new int[] {-1, 2 * cells, LEAST, GREATEST}) {
            add(calls, "isIn(" + bad + ")", UNKNOWN, x -> x.isIn(bad));
            add(calls, "set(" + bad + ", true)", UNKNOWN, x -> x.set(bad, true));
            add(calls, "set(" + bad + ", false)", UNKNOWN, x -> x.set(bad, false));
        }
        for (int bad : new int[] {-1, cells, LEAST, GREATEST}) {
            add(calls, "with(" + bad + ", 0)", UNKNOWN, x -> x.with(bad, 0));
            add(calls, "kinds(" + bad + ")", UNKNOWN, x -> x.kinds(bad));
            add(calls, "weight(" + bad + ", 0, 1)", UNKNOWN, x -> x.weight(bad, 0, 1));
            add(calls, "kind(0, " + bad + ")", UNKNOWN, x -> x.kind(0, bad));
        }
        for (int bad : new int[] {-1, 3, LEAST, GREATEST}) {
            add(calls, "with(0, " + bad + ")", UNKNOWN, x -> x.with(0, bad));
            add(calls, "span(" + bad + ", true)", UNKNOWN, x -> x.span(bad, true));
            add(calls, "span(" + bad + ", false)", UNKNOWN, x -> x.span(bad, false));
            add(calls, "weight(0, " + bad + ", 1)", UNKNOWN, x -> x.weight(0, bad, 1));
            add(calls, "count(0, " + bad + ")", UNKNOWN, x -> x.count(0, bad));
        }
        for (int bad : new int[] {-100, 100, LEAST, GREATEST}) {
            add(calls, "weight(1, 1, " + bad + ")", OUTSIDE, x -> x.weight(1, 1, bad));
        }
    }

    private static void addNoSlots(List<Refused> calls) {
        for (int bad : NO_SLOTS) {
            String in = "(" + bad + ")";
            add(calls, "lay" + in, UNKNOWN, x -> x.lay(bad, 0));
            add(calls, "lay, no PLACE" + in, UNKNOWN, x -> x.lay(bad, -1));
            add(calls, "layDearest" + in, UNKNOWN, x -> x.layDearest(bad));
            add(calls, "copy from" + in, UNKNOWN, x -> x.copy(bad, 0));
            add(calls, "copy to" + in, UNKNOWN, x -> x.copy(0, bad));
            add(calls, "copy of none to" + in, UNKNOWN, x -> x.copy(1, bad));
            add(calls, "copy from and to" + in, UNKNOWN, x -> x.copy(bad, bad));
            add(calls, "place" + in, UNKNOWN, x -> x.place(bad));
            add(calls, "kind" + in, UNKNOWN, x -> x.kind(bad, 0));
            add(calls, "kind, no CELL" + in, UNKNOWN, x -> x.kind(bad, -1));
            add(calls, "count" + in, UNKNOWN, x -> x.count(bad, 0));
            add(calls, "weighs" + in, UNKNOWN, x -> x.weighs(bad));
            add(calls, "point" + in, UNKNOWN, x -> x.point(bad, 1, 1));
            add(calls, "free" + in, UNKNOWN, x -> x.free(bad, true));
            add(calls, "turn" + in, UNKNOWN, x -> x.turn(bad, 1, 1));
            add(calls, "apart from" + in, UNKNOWN, x -> x.apart(bad, 0));
            add(calls, "apart to" + in, UNKNOWN, x -> x.apart(0, bad));
            add(calls, "apart of none to" + in, UNKNOWN, x -> x.apart(1, bad));
            add(calls, "apart to none from" + in, UNKNOWN, x -> x.apart(bad, 1));
            add(calls, "end" + in, UNKNOWN, x -> x.end(bad, true));
            add(calls, "end down" + in, UNKNOWN, x -> x.end(bad, false));
            add(calls, "reach" + in, UNKNOWN, x -> x.reach(bad));
            add(calls, "mirror" + in, UNKNOWN, x -> x.mirror(bad));
        }
    }

    // ---- 'of several the first that a call names'

    /** UNKNOWN and STATE, UNKNOWN and OUTSIDE at once; SLOT 1 holds none. */
    private static void addSeveral(List<Refused> calls, int w, int h) {
        int cells = w * h;
        for (int v : new int[] {100, -100, LEAST, GREATEST}) {
            add(calls, "weight, no CELL, OUTSIDE", UNKNOWN, x -> x.weight(cells, 0, v));
            add(calls, "weight, no KIND, OUTSIDE", UNKNOWN, x -> x.weight(0, 3, v));
            add(calls, "weight, no CELL, no KIND, OUTSIDE", UNKNOWN, x -> x.weight(-1, -1, v));
        }
        add(calls, "with, no CELL, no KIND", UNKNOWN, x -> x.with(cells, 3));
        add(calls, "kind of none, no CELL", UNKNOWN, x -> x.kind(1, cells));
        add(calls, "kind of none, no CELL", UNKNOWN, x -> x.kind(1, -1));
        add(calls, "count of none, no KIND", UNKNOWN, x -> x.count(1, 3));
        add(calls, "count of none, no KIND", UNKNOWN, x -> x.count(1, -1));
        for (int[] at : new int[][] {{-1, 0}, {0, -1}, {w + 1, 0}, {0, h + 1}, {LEAST, 1}, {1, GREATEST}}) {
            String name = at[0] + ", " + at[1];
            add(calls, "point of none, no POINT " + name, UNKNOWN, x -> x.point(1, at[0], at[1]));
            add(calls, "turn of none, no POINT " + name, UNKNOWN, x -> x.turn(1, at[0], at[1]));
            add(calls, "point, no POINT " + name, UNKNOWN, x -> x.point(0, at[0], at[1]));
            add(calls, "turn, no POINT " + name, UNKNOWN, x -> x.turn(0, at[0], at[1]));
        }
    }

    private static void addOfNone(List<Refused> calls, int slot) {
        String in = " of SLOT " + slot + ", none";
        add(calls, "copy" + in, STATE, x -> x.copy(slot, 0));
        add(calls, "copy to itself" + in, STATE, x -> x.copy(slot, slot));
        add(calls, "place" + in, STATE, x -> x.place(slot));
        add(calls, "kind" + in, STATE, x -> x.kind(slot, 0));
        add(calls, "count" + in, STATE, x -> x.count(slot, 0));
        add(calls, "weighs" + in, STATE, x -> x.weighs(slot));
        add(calls, "point" + in, STATE, x -> x.point(slot, 1, 1));
        add(calls, "free low" + in, STATE, x -> x.free(slot, false));
        add(calls, "free high" + in, STATE, x -> x.free(slot, true));
        add(calls, "turn" + in, STATE, x -> x.turn(slot, 1, 1));
        add(calls, "apart" + in, STATE, x -> x.apart(slot, 0));
        add(calls, "apart, back" + in, STATE, x -> x.apart(0, slot));
        add(calls, "apart from itself" + in, STATE, x -> x.apart(slot, slot));
        add(calls, "end up" + in, STATE, x -> x.end(slot, true));
        add(calls, "end down" + in, STATE, x -> x.end(slot, false));
        add(calls, "reach" + in, STATE, x -> x.reach(slot));
        add(calls, "mirror" + in, STATE, x -> x.mirror(slot));
    }

    private static void addPlaces(List<Refused> calls, long layings) {
        for (long bad : new long[] {-1, layings, layings + 1, 1L << 32, (1L << 32) + layings - 1, -(1L << 32),
                Long.MAX_VALUE, Long.MIN_VALUE}) {
            add(calls, "lay(0, " + bad + ")", OUTSIDE, x -> x.lay(0, bad));
            add(calls, "lay(1, " + bad + ")", OUTSIDE, x -> x.lay(1, bad));
            add(calls, "lay(4, " + bad + ")", UNKNOWN, x -> x.lay(4, bad));
        }
    }

    // ---- the scenes

    private static List<Refused> common(int w, int h, long layings) {
        List<Refused> calls = new ArrayList<>();
        addGrounds(calls);
        addHexagons(calls, justOutside());
        addHexagons(calls, farOutside());
        addNumbers(calls, w * h);
        addNoSlots(calls);
        addSeveral(calls, w, h);
        addOfNone(calls, 1);
        addOfNone(calls, 3);
        addPlaces(calls, layings);
        return calls;
    }

    private static void onHexagon() {
        List<Refused> calls = common(4, 4, 20);
        add(calls, "turn on the rim", STATE, x -> x.turn(0, 0, 0));
        add(calls, "turn on the far rim", STATE, x -> x.turn(0, 4, 4));
        add(calls, "turn of one that is INNER alone", STATE, x -> x.turn(2, 1, 2));
        due("hexagon 2, 2, 2: LAYINGS", hexagon(2, 2, 2).layings(), 20);
        refuse("hexagon 2, 2, 2", () -> fill(hexagon(2, 2, 2)), calls);
    }

    private static void onCrooked() {
        List<Refused> calls = new ArrayList<>();
        add(calls, "mirror, no LAYING", STATE, x -> x.mirror(0));
        add(calls, "mirror, no LAYING", STATE, x -> x.mirror(2));
        add(calls, "mirror of none, no LAYING", STATE, x -> x.mirror(1));
        add(calls, "mirror of no SLOT, no LAYING", UNKNOWN, x -> x.mirror(4));
        due("crooked: LAYINGS", crooked().layings(), hexagon(2, 2, 2).with(6, 0));
        refuse("crooked", RefusalsTest::crooked, calls);
    }

    private static void onWide() {
        List<Refused> calls = common(5, 4, 10);
        add(calls, "mirror, W is not H", STATE, x -> x.mirror(0));
        add(calls, "mirror, W is not H", STATE, x -> x.mirror(2));
        due("5 by 4: LAYINGS", wide().layings(), 10);
        refuse("hexagon 3, 2, 1 on 5 by 4", RefusalsTest::wide, calls);
    }

    /** 5 by 4 and 10 LAYINGS: hexagon 3, 2, 1, with a column and a row of CELLS that are OUT beside it. */
    private static LozengeGrounds wide() {
        LozengeGrounds x = ground(5, 4);
        for (int y = 0; y < 4; y++) {
            for (int px = 0; px < 5; px++) {
                boolean in = px < 4 && y < 3;
                boolean upIn = in && px + y >= 1 && px + y + 1 <= 6;
                boolean downIn = in && px + y + 1 >= 1 && px + y + 2 <= 6;
                x.set(2 * (5 * y + px), upIn);
                x.set(2 * (5 * y + px) + 1, downIn);
            }
        }
        return fill(x);
    }

    /** The SLOTS are all empty here, and stay so. */
    private static void onBarred() {
        List<Refused> calls = new ArrayList<>();
        addNumbersWithoutSlots(calls);
        addNoSlots(calls);
        addSeveral(calls, 4, 4);
        for (int slot = 0; slot < 4; slot++) {
            int at = slot;
            addOfNone(calls, at);
            add(calls, "layDearest(" + at + "), no LAYING", STATE, x -> x.layDearest(at));
        }
        addPlaces(calls, 0);
        add(calls, "span, no KIND, no LAYING", UNKNOWN, x -> x.span(3, true));
        due("no LAYING: LAYINGS", barredGround().layings(), 0);
        refuse("no LAYING", RefusalsTest::barredGround, calls);
    }

    private static void addNumbersWithoutSlots(List<Refused> calls) {
        addNumbers(calls, 16);
        addGrounds(calls);
        addHexagons(calls, justOutside());
    }

    private static void onEmptied() {
        List<Refused> calls = new ArrayList<>();
        addNoSlots(calls);
        addOfNone(calls, 3);
        addPlaces(calls, 1);
        add(calls, "turn", STATE, x -> x.turn(0, 1, 1));
        refuse("nothing IN", () -> fill(emptied(2, 2)), calls);
    }

    private static void onSmallest() {
        List<Refused> calls = common(1, 1, 1);
        // There is but one CELL, so CELL 1 of the common calls is unknown here.
        calls.removeIf(r -> r.name.startsWith("weight(1, 1,"));
        add(calls, "weight(1, 1, 100)", UNKNOWN, x -> x.weight(1, 1, 100));
        add(calls, "weight(0, 1, 100)", OUTSIDE, x -> x.weight(0, 1, 100));
        add(calls, "point behind the last", UNKNOWN, x -> x.point(0, 2, 1));
        add(calls, "turn of the last", STATE, x -> x.turn(0, 1, 1));
        refuse("1 by 1", () -> fill(ground(1, 1)), calls);
    }

    /** More than 2000 that TURNS lead to: SPENT stands behind UNKNOWN and STATE, and moves nothing. */
    private static void onLargest() {
        List<Refused> calls = new ArrayList<>();
        addNoSlots(calls);
        addOfNone(calls, 1);
        addSeveral(calls, 8, 8);
        addPlaces(calls, 232848);
        add(calls, "reach", SPENT, x -> x.reach(0));
        add(calls, "reach", SPENT, x -> x.reach(2));
        add(calls, "reach of none", STATE, x -> x.reach(3));
        add(calls, "reach of no SLOT", UNKNOWN, x -> x.reach(4));
        due("hexagon 4, 4, 4: LAYINGS", hexagon(4, 4, 4).layings(), 232848);
        refuse("hexagon 4, 4, 4", () -> fill(hexagon(4, 4, 4)), calls);
    }

    // ---- 'Numbers told as longs: refusals are told likewise', and the constants

    private static void toldAsLongs() {
        LozengeGrounds x = fill(hexagon(2, 2, 2));
        long outside = x.product(8, 1, 1);
        long unknownCell = x.with(16, 0);
        long unknownKind = x.with(0, 3);
        long unknownSlot = x.place(4);
        long none = x.place(1);
        due("product as a long", outside, -900002L);
        due("with of no CELL as a long", unknownCell, -900001L);
        due("with of no KIND as a long", unknownKind, -900001L);
        due("place of no SLOT as a long", unknownSlot, -900001L);
        due("place of none as a long", none, -900003L);
        due("UNKNOWN", UNKNOWN, -900001);
        due("OUTSIDE", OUTSIDE, -900002);
        due("STATE", STATE, -900003);
        due("FULL", LozengeGrounds.FULL, -900004);
        due("SPENT", SPENT, -900005);
        due("NONE", NONE, -900009);
    }

    public static void main(String[] args) {
        sidesOfGround();
        boundsOfHexagon();
        lastOnes();
        toldAsLongs();
        onHexagon();
        onCrooked();
        onWide();
        onBarred();
        onEmptied();
        onSmallest();
        onLargest();
        System.out.println(wrong == 0 ? "all refusals are as due" : wrong + " answers are not as due");
        if (wrong != 0) {
            System.exit(1);
        }
    }
}
