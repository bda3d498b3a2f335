import java.util.Arrays;

/**
 * The document's sentences that name an edge (empty, full, the first, the last, the same again), each
 * by a test of its own; RefusalsTest has those on refusals. No object here is used for more than 512 calls.
 */
public final class EdgesTest {
    private static final int UNKNOWN = LozengeGrounds.UNKNOWN;
    private static final int OUTSIDE = LozengeGrounds.OUTSIDE;
    private static final int STATE = LozengeGrounds.STATE;
    private static final int SPENT = LozengeGrounds.SPENT;
    private static final int NONE = LozengeGrounds.NONE;

    private static int wrong = 0;

    private static void due(String what, long got, long want) {
        if (got != want) {
            wrong++;
            if (wrong < 60) {
                System.out.println(what + " answered " + got + ", due is " + want);
            }
        }
    }

    private interface Call {
        long on(LozengeGrounds x);
    }

    // ---- grounds

    private static LozengeGrounds ground(int w, int h) {
        LozengeGrounds x = new LozengeGrounds();
        x.ground(w, h);
        return x;
    }

    private static LozengeGrounds hexagon(int a, int b, int c) {
        LozengeGrounds x = new LozengeGrounds();
        x.hexagon(a, b, c);
        return x;
    }

    /** A ground with nothing IN but the TRIANGLES named. */
    private static LozengeGrounds only(int w, int h, int... triangles) {
        LozengeGrounds x = ground(w, h);
        for (int t = 0; t < 2 * w * h; t++) {
            x.set(t, false);
        }
        for (int t : triangles) {
            x.set(t, true);
        }
        return x;
    }

    private static LozengeGrounds without(LozengeGrounds x, int... triangles) {
        for (int t : triangles) {
            x.set(t, false);
        }
        return x;
    }

    /** Nothing but the UP (side 0), or the DOWN (side 1), of all CELLS is IN. */
    private static LozengeGrounds oneSide(int w, int h, int side) {
        LozengeGrounds x = ground(w, h);
        for (int cell = 0; cell < w * h; cell++) {
            x.set(2 * cell + 1 - side, false);
        }
        return x;
    }

    /** A ring of 3 by 3 CELLS with a hole: two LAYINGS, and no POINT that is INNER. */
    private static LozengeGrounds ring() {
        return without(ground(3, 3), 0, 17, 8, 9);
    }

    /** Some ground with LAYINGS in all SLOTS and with WEIGHTS. */
    private static LozengeGrounds filled() {
        LozengeGrounds x = hexagon(2, 2, 2);
        for (int slot = 0; slot < 4; slot++) {
            x.lay(slot, 5 * slot);
        }
        for (int i = 0; i < 48; i++) {
            x.weight(i / 3, i % 3, 48 - i);
        }
        return x;
    }

    private static void slotsAreEmpty(String when, LozengeGrounds x) {
        for (int slot = 0; slot < 4; slot++) {
            due(when + ": SLOT " + slot, x.place(slot), STATE);
        }
    }

    private static void slotsAreFilled(String when, LozengeGrounds x) {
        for (int slot = 0; slot < 4; slot++) {
            due(when + ": SLOT " + slot, x.place(slot), 5 * slot);
        }
    }

    /** Asks each WEIGHT; those asked are 0 then. */
    private static void noWeights(String when, LozengeGrounds x) {
        int all = 3 * x.size(0) * x.size(1);
        for (int i = 0; i < all; i++) {
            due(when + ": WEIGHT " + i, x.weight(i / 3, i % 3, 0), 0);
        }
    }

    // ---- A new object; ground and hexagon: 'no WEIGHTS, SLOTS empty'

    private static void newObject() {
        LozengeGrounds x = new LozengeGrounds();
        due("new: W", x.size(0), 4);
        due("new: H", x.size(1), 4);
        for (int t = 0; t < 32; t++) {
            due("new: isIn(" + t + ")", x.isIn(t), 1);
        }
        due("new: isIn(32)", x.isIn(32), UNKNOWN);
        slotsAreEmpty("new", x);
        noWeights("new", x);
        due("new: lack", x.lack(), 0);
        due("new: bar", x.bar(), NONE);
    }

    private static void groundAnew() {
        LozengeGrounds same = new LozengeGrounds();
        for (int slot = 0; slot < 4; slot++) {
            same.lay(slot, 0);
        }
        for (int i = 0; i < 48; i++) {
            same.weight(i / 3, i % 3, -99);
        }
        due("ground(4, 4) again", same.ground(4, 4), 16);
        slotsAreEmpty("ground(4, 4) again", same);
        noWeights("ground(4, 4) again", same);
        LozengeGrounds x = filled();
        due("ground(1, 1)", x.ground(1, 1), 1);
        due("ground(8, 8)", x.ground(8, 8), 64);
        due("UP of ground(8, 8)", x.ups(true), 64);
        due("DOWN of ground(8, 8)", x.ups(false), 64);
        slotsAreEmpty("ground(8, 8)", x);
        noWeights("ground(8, 8)", x);
        LozengeGrounds holes = without(ground(3, 2), 0, 5, 11);
        due("ground(3, 2) again", holes.ground(3, 2), 6);
        for (int t = 0; t < 12; t++) {
            due("all IN again: " + t, holes.isIn(t), 1);
        }
    }

    private static void hexagonAnew() {
        LozengeGrounds same = filled();
        due("hexagon(2, 2, 2) again", same.hexagon(2, 2, 2), 24);
        slotsAreEmpty("hexagon(2, 2, 2) again", same);
        noWeights("hexagon(2, 2, 2) again", same);
        LozengeGrounds x = filled();
        due("hexagon(1, 1, 1)", x.hexagon(1, 1, 1), 6);
        slotsAreEmpty("hexagon(1, 1, 1)", x);
        due("hexagon(7, 7, 1)", x.hexagon(7, 7, 1), 126);
        noWeights("hexagon(7, 7, 1)", x);
        LozengeGrounds holes = without(hexagon(2, 2, 2), 10, 11, 19);
        holes.set(0, true);
        due("hexagon(2, 2, 2) behind holes", holes.hexagon(2, 2, 2), 24);
        due("hexagon(2, 2, 2) behind holes: the first UP", holes.isIn(0), 0);
        due("hexagon(2, 2, 2) behind holes", holes.layings(), 20);
    }

    /** 'IN are the TRIANGLES of which all corners have c <= x + y <= a + b + c', on every hexagon. */
    private static void trianglesOfHexagons() {
        for (int a = 1; a <= 7; a++) {
            for (int b = 1; b <= 7; b++) {
                for (int c = 1; a + c <= 8 && b + c <= 8; c++) {
                    LozengeGrounds x = hexagon(a, b, c);
                    for (int t = 0; t < 2 * (a + c) * (b + c); t++) {
                        String name = "hexagon " + a + ", " + b + ", " + c + ": isIn(" + t + ")";
                        due(name, x.isIn(t), allCornersIn(t, a, b, c) ? 1 : 0);
                    }
                }
            }
        }
    }

    private static boolean allCornersIn(int triangle, int a, int b, int c) {
        int x = triangle / 2 % (a + c);
        int y = triangle / 2 / (a + c);
        int[] sums = triangle % 2 == 0 ? new int[] {x + y, x + 1 + y, x + y + 1} : new int[] {x + 1 + y, x + 1 + y + 1, x + y + 1};
        for (int sum : sums) {
            if (sum < c || sum > a + b + c) {
                return false;
            }
        }
        return true;
    }

    // ---- nothing of an earlier ground is told

    /** Each call as the first one on a ground: on a new object, and on one that was asked all of another ground. */
    private static void askedFirst(String name, Call call, long onHexagon, long onBarred) {
        due("first: " + name, call.on(hexagon(2, 2, 2)), onHexagon);
        LozengeGrounds x = new LozengeGrounds();
        askAll(x);
        x.hexagon(2, 2, 2);
        due("first behind a ground: " + name, call.on(x), onHexagon);
        askAll(x);
        x.set(11, false);
        due("first behind set: " + name, call.on(x), onBarred);
        askAll(x);
        x.set(11, true);
        due("first behind set back: " + name, call.on(x), onHexagon);
        askAll(x);
        x.set(11, false);
        x.hexagon(2, 2, 2);
        due("first behind hexagon: " + name, call.on(x), onHexagon);
    }

    private static void askAll(LozengeGrounds x) {
        x.layings();
        x.dearest();
        x.most();
        x.lay(0, 0);
        x.reach(0);
    }

    private static void eachAskedFirst() {
        askedFirst("ups", x -> x.ups(false), 12, 11);
        askedFirst("layings", LozengeGrounds::layings, 20, 0);
        askedFirst("with", x -> x.with(5, 0), 8, 0);
        askedFirst("kinds", x -> x.kinds(5), 7, 0);
        askedFirst("forced", LozengeGrounds::forced, 0, 0);
        due("first: forced of a new object", new LozengeGrounds().forced(), 16);
        askedFirst("span", x -> x.span(0, true), 4, NONE);
        askedFirst("dearest", LozengeGrounds::dearest, 0, NONE);
        askedFirst("lay", x -> x.lay(3, 19), 1, OUTSIDE);
        askedFirst("layDearest", x -> x.layDearest(3), 0, STATE);
        askedFirst("place", x -> x.place(0), STATE, STATE);
        askedFirst("reach", x -> x.reach(0), STATE, STATE);
        askedFirst("most", LozengeGrounds::most, 12, 11);
        askedFirst("lack", LozengeGrounds::lack, 0, 1);
        askedFirst("bar", LozengeGrounds::bar, NONE, 12);
        askedFirst("barred", x -> x.barred(0), NONE, 2);
    }

    /** The same CELLS with the same KINDS on a ground of another width: there no POINT can be turned. */
    private static void reachOnOtherWidth() {
        LozengeGrounds x = only(2, 3, 6, 8, 10, 5, 7, 9);
        x.lay(0, 0);
        due("2 by 3: KINDS", 100 * x.kind(0, 3) + 10 * x.kind(0, 4) + x.kind(0, 5), 21);
        due("2 by 3: reach", x.reach(0), 2);
        x.ground(3, 2);
        without(x, 0, 1, 2, 4, 5, 11);
        x.lay(0, 0);
        due("3 by 2: KINDS", 100 * x.kind(0, 3) + 10 * x.kind(0, 4) + x.kind(0, 5), 21);
        due("3 by 2: reach", x.reach(0), 1);
    }

    // ---- set

    private static void setAgain() {
        LozengeGrounds x = filled();
        for (int t = 0; t < 32; t++) {
            boolean in = allCornersIn(t, 2, 2, 2);
            due("set(" + t + ") as it is", x.set(t, in), in ? 1 : 0);
        }
        slotsAreFilled("set as it is", x);
        due("set as it is: LAYINGS", x.layings(), 20);
    }

    private static void setAnother() {
        for (int t = 0; t < 32; t++) {
            boolean in = allCornersIn(t, 2, 2, 2);
            LozengeGrounds x = filled();
            due("set(" + t + ") another", x.set(t, !in), in ? 1 : 0);
            due("isIn(" + t + ") then", x.isIn(t), in ? 0 : 1);
            slotsAreEmpty("set(" + t + ") another", x);
            due("LAYINGS then", x.layings(), 0);
            due("set(" + t + ") back", x.set(t, in), in ? 0 : 1);
            slotsAreEmpty("set(" + t + ") back", x);
            due("LAYINGS as before", x.layings(), 20);
            for (int i = 0; i < 48; i++) {
                due("WEIGHTS as before", x.weight(i / 3, i % 3, 0), 48 - i);
            }
        }
    }

    // ---- grounds with one LAYING, and with none

    /** 'Nothing IN: there is one LAYING', which has no LOZENGE. */
    private static void nothingIn(int w, int h) {
        LozengeGrounds x = only(w, h);
        String on = "nothing IN, " + w + " by " + h + ": ";
        due(on + "layings", x.layings(), 1);
        due(on + "forced", x.forced(), 0);
        due(on + "dearest", x.dearest(), 0);
        due(on + "weight", x.weight(0, 0, 99), 0);
        due(on + "dearest, weighed", x.dearest(), 0);
        for (int kind = 0; kind < 3; kind++) {
            due(on + "span least", x.span(kind, false), 0);
            due(on + "span most", x.span(kind, true), 0);
            due(on + "with", x.with(w * h - 1, kind), 0);
        }
        due(on + "kinds", x.kinds(0), 0);
        due(on + "lay(0, 1)", x.lay(0, 1), OUTSIDE);
        due(on + "lay(0, -1)", x.lay(0, -1), OUTSIDE);
        due(on + "lay(0, 0)", x.lay(0, 0), 1);
        due(on + "layDearest(1)", x.layDearest(1), 0);
        for (int slot = 0; slot < 2; slot++) {
            due(on + "place", x.place(slot), 0);
            due(on + "kind", x.kind(slot, 0), NONE);
            due(on + "count", x.count(slot, 0) + x.count(slot, 1) + x.count(slot, 2), 0);
            due(on + "weighs", x.weighs(slot), 0);
            due(on + "point", x.point(slot, w, h), 0);
            due(on + "free", x.free(slot, false) + x.free(slot, true), 0);
            due(on + "apart", x.apart(slot, 1 - slot), 0);
            due(on + "end up", x.end(slot, true), 0);
            due(on + "end down", x.end(slot, false), 0);
            due(on + "reach", x.reach(slot), 1);
            due(on + "mirror", x.mirror(slot), w == h ? 0 : STATE);
        }
        due(on + "most", x.most(), 0);
        due(on + "lack", x.lack(), 0);
        due(on + "bar", x.bar(), NONE);
        due(on + "barred", x.barred(0), NONE);
    }

    /** What calls on LAYINGS answer where there is none. */
    private static void noLaying(String on, LozengeGrounds x) {
        due(on + ": layings", x.layings(), 0);
        int cells = x.size(0) * x.size(1);
        for (int cell = 0; cell < cells; cell++) {
            for (int kind = 0; kind < 3; kind++) {
                due(on + ": with(" + cell + ", " + kind + ")", x.with(cell, kind), 0);
            }
            due(on + ": kinds(" + cell + ")", x.kinds(cell), 0);
        }
        due(on + ": forced", x.forced(), 0);
        for (int kind = 0; kind < 3; kind++) {
            due(on + ": span(" + kind + ", false)", x.span(kind, false), NONE);
            due(on + ": span(" + kind + ", true)", x.span(kind, true), NONE);
        }
        due(on + ": dearest", x.dearest(), NONE);
        x.weight(0, 0, 99);
        due(on + ": dearest, weighed", x.dearest(), NONE);
        for (int slot = 0; slot < 4; slot++) {
            due(on + ": layDearest", x.layDearest(slot), STATE);
            due(on + ": lay(" + slot + ", 0)", x.lay(slot, 0), OUTSIDE);
            due(on + ": lay(" + slot + ", 1)", x.lay(slot, 1), OUTSIDE);
            due(on + ": lay(" + slot + ", -1)", x.lay(slot, -1), OUTSIDE);
        }
        due(on + ": no SLOT", x.layDearest(4), UNKNOWN);
        slotsAreEmpty(on, x);
    }

    private static void groundsWithoutLaying() {
        noLaying("the first UP is OUT", without(ground(3, 3), 0));
        noLaying("the last DOWN is OUT", without(ground(3, 3), 17));
        noLaying("only UP", oneSide(2, 3, 0));
        noLaying("only DOWN", oneSide(3, 2, 1));
        noLaying("one UP", only(1, 1, 0));
        noLaying("one DOWN", only(1, 1, 1));
        noLaying("as many UP as DOWN, apart", only(2, 2, 0, 7));
        noLaying("as many UP as DOWN, at a row's end", only(2, 2, 4, 3));
        noLaying("as many UP as DOWN, joined the wrong way", only(2, 2, 0, 3));
        noLaying("as many UP as DOWN, the first DOWN and the last UP are OUT", without(ground(3, 3), 1, 16));
        noLaying("two UP at one DOWN, one DOWN alone", only(3, 3, 0, 1, 2, 17));
        noLaying("as many of both, an UP of hexagon 2, 2, 2 without DOWN", without(hexagon(2, 2, 2), 3, 5, 26, 28));
    }

    // ---- lay and place

    private static void firstAndLastPlaces() {
        for (int[] s : new int[][] {{1, 1, 1}, {2, 1, 3}, {3, 3, 3}, {7, 7, 1}, {1, 1, 7}, {4, 4, 4}}) {
            LozengeGrounds x = hexagon(s[0], s[1], s[2]);
            String on = "hexagon " + s[0] + ", " + s[1] + ", " + s[2] + ": ";
            long all = x.product(s[0], s[1], s[2]);
            due(on + "lay(0, the first)", x.lay(0, 0), 1);
            due(on + "lay(1, the last)", x.lay(1, all - 1), 1);
            for (long bad : new long[] {all, -1, all + (1L << 32), 1L << 32, -(1L << 32), Long.MAX_VALUE, Long.MIN_VALUE}) {
                due(on + "lay(0, " + bad + ")", x.lay(0, bad), OUTSIDE);
                due(on + "lay(2, " + bad + ")", x.lay(2, bad), OUTSIDE);
            }
            due(on + "place of the first", x.place(0), 0);
            due(on + "place of the last", x.place(1), all - 1);
            due(on + "place of what was refused", x.place(2), STATE);
            due(on + "the first is ahead", ahead(x, 0, 1) ? 1 : 0, 1);
        }
    }

    /** 'that is ahead which has the lesser KIND at the first CELL at which they differ' */
    private static boolean ahead(LozengeGrounds x, int slot, int other) {
        for (int cell = 0; cell < x.size(0) * x.size(1); cell++) {
            if (x.kind(slot, cell) != x.kind(other, cell)) {
                return x.kind(slot, cell) < x.kind(other, cell);
            }
        }
        return false;
    }

    private static void placesInOrder() {
        for (long place = 0; place < 979; place++) {
            LozengeGrounds x = hexagon(3, 3, 3);
            x.lay(0, place);
            x.lay(1, place + 1);
            due("PLACE " + place + " is ahead of the next", ahead(x, 0, 1) ? 1 : 0, 1);
            due("PLACE told back", x.place(1), place + 1);
        }
    }

    // ---- WEIGHTS and THE DEAREST

    private static void weightBounds() {
        LozengeGrounds x = ground(8, 8);
        int[] told = {99, -99, 100, 0, -100, 98, 99, 1000, Integer.MAX_VALUE, -98, Integer.MIN_VALUE, -1000};
        for (int cell : new int[] {0, 17, 63}) {
            for (int kind = 0; kind < 3; kind++) {
                int was = 0;
                for (int v : told) {
                    boolean fits = v >= -99 && v <= 99;
                    due("weight(" + cell + ", " + kind + ", " + v + ")", x.weight(cell, kind, v), fits ? was : OUTSIDE);
                    was = fits ? v : was;
                }
                due("weight, what it was", x.weight(cell, kind, 0), -98);
            }
        }
        LozengeGrounds out = only(2, 2);
        due("weight of a CELL that is OUT", out.weight(3, 2, 7), 0);
        due("weight of a CELL that is OUT", out.weight(3, 2, 0), 7);
    }

    private static void heaviest() {
        for (int v : new int[] {99, -99}) {
            LozengeGrounds x = ground(8, 8);
            for (int cell = 0; cell < 64; cell++) {
                x.weight(cell, 0, v);
                x.weight(cell, 1, 99);
                x.weight(cell, 2, 99);
            }
            due("64 times " + v, x.dearest(), 64 * v);
            due("64 times " + v, x.layDearest(3), 64 * v);
            due("64 times " + v, x.weighs(3), 64 * v);
        }
    }

    /** 'weighs most; of like ones the first': all PLACES weighed, by WEIGHTS of few values, so that many are alike. */
    private static void firstOfLikeOnes() {
        int notFirst = 0;
        for (int seed = 0; seed < 60; seed++) {
            LozengeGrounds x = hexagon(2, 2, 2);
            for (int i = 0; i < 48; i++) {
                x.weight(i / 3, i % 3, (i * i + seed * (i + 7)) % 5 % 3 - 1 - seed % 2);
            }
            int best = 0;
            int most = Integer.MIN_VALUE;
            for (int place = 0; place < 20; place++) {
                x.lay(0, place);
                if (x.weighs(0) > most) {
                    most = x.weighs(0);
                    best = place;
                }
            }
            due("dearest " + seed, x.dearest(), most);
            due("layDearest " + seed, x.layDearest(1), most);
            due("PLACE of the dearest " + seed, x.place(1), best);
            due("SLOT 0 stays " + seed, x.place(0), 19);
            notFirst += best > 0 ? 1 : 0;
        }
        due("THE DEAREST is not always PLACE 0", notFirst > 10 ? 1 : 0, 1);
        LozengeGrounds like = filled();
        like.hexagon(3, 2, 1);
        due("all alike: layDearest", like.layDearest(0), 0);
        due("all alike: the first", like.place(0), 0);
    }

    // ---- SLOTS

    private static void slotsApart() {
        LozengeGrounds x = hexagon(2, 2, 2);
        due("lay(0)", x.lay(0, 3), 1);
        due("lay(3)", x.lay(3, 11), 1);
        due("lay(4)", x.lay(4, 3), UNKNOWN);
        due("lay(-1)", x.lay(-1, 3), UNKNOWN);
        due("SLOT 0", x.place(0), 3);
        due("SLOT 1", x.place(1), STATE);
        due("SLOT 2", x.place(2), STATE);
        due("SLOT 3", x.place(3), 11);
        due("SLOT 4", x.place(4), UNKNOWN);
        due("SLOT -1", x.place(-1), UNKNOWN);
        due("copy to itself", x.copy(3, 3), 1);
        due("copy to itself", x.place(3), 11);
        due("copy to one that holds another", x.copy(3, 0), 1);
        due("copy to one that holds another", x.place(0), 11);
        due("what was copied stays", x.place(3), 11);
        due("copy to one that holds none", x.copy(0, 1), 1);
        due("copy to one that holds none", x.place(1), 11);
        due("copy of one that holds none", x.copy(2, 3), STATE);
        due("copy of one that holds none to itself", x.copy(2, 2), STATE);
        due("SLOT 3 stays", x.place(3), 11);
        due("SLOT 2 stays", x.place(2), STATE);
        x.end(0, true);
        due("the copy is moved alone", x.place(0), 19);
        due("the other stays", x.place(3), 11);
        due("the other stays", x.place(1), 11);
    }

    /** 'NONE: it is OUT', though the DOWN of the CELL may be IN; with and kinds have none of it. */
    private static void upThatIsOut() {
        LozengeGrounds x = hexagon(2, 2, 2);
        x.lay(0, 10);
        for (int cell = 0; cell < 16; cell++) {
            boolean in = x.isIn(2 * cell) == 1;
            due("kind(0, " + cell + ") is NONE", x.kind(0, cell) == NONE ? 1 : 0, in ? 0 : 1);
            long sum = x.with(cell, 0) + x.with(cell, 1) + x.with(cell, 2);
            due("with of CELL " + cell + ", all KINDS", sum, in ? 20 : 0);
            due("kinds(" + cell + ") is empty", x.kinds(cell) == 0 ? 1 : 0, in ? 0 : 1);
        }
        due("hexagon: UP of CELL 1 is OUT, its DOWN is IN", x.isIn(2) * 10 + x.isIn(3), 1);
        due("forced: none that is OUT", without(ground(2, 2), 0, 1).forced(), 3);
    }

    private static void countsAreSpans() {
        LozengeGrounds x = hexagon(3, 2, 4);
        x.lay(0, 0);
        x.lay(1, x.layings() - 1);
        int[] want = {6, 12, 8};
        for (int kind = 0; kind < 3; kind++) {
            due("span(" + kind + ", false)", x.span(kind, false), want[kind]);
            due("span(" + kind + ", true)", x.span(kind, true), want[kind]);
            due("count of the first", x.count(0, kind), want[kind]);
            due("count of the last", x.count(1, kind), want[kind]);
        }
    }

    // ---- POINTS

    /** Every POINT of every LAYING of hexagon 2, 2, 2 by the KINDS around it. */
    private static void pointsByKinds() {
        int alone = 0;
        for (int place = 0; place < 20; place++) {
            LozengeGrounds x = hexagon(2, 2, 2);
            x.lay(0, place);
            int[] seen = new int[4];
            for (int y = 0; y <= 4; y++) {
                for (int px = 0; px <= 4; px++) {
                    int want = stateByKinds(x, px, y);
                    due("PLACE " + place + ": point " + px + ", " + y, x.point(0, px, y), want);
                    seen[want]++;
                }
            }
            due("PLACE " + place + ": free LOW", x.free(0, false), seen[2]);
            due("PLACE " + place + ": free HIGH", x.free(0, true), seen[3]);
            due("PLACE " + place + ": INNER", seen[1] + seen[2] + seen[3], 7);
            alone += seen[1];
        }
        due("some are INNER alone", alone > 0 ? 1 : 0, 1);
    }

    private static int stateByKinds(LozengeGrounds x, int px, int y) {
        int sum = px + y;
        boolean inner = px > 0 && px < 4 && y > 0 && y < 4 && sum > 2 && sum < 6;
        if (!inner) {
            return 0;
        }
        int told = 100 * x.kind(0, 4 * y + px) + 10 * x.kind(0, 4 * y + px - 1) + x.kind(0, 4 * (y - 1) + px);
        return told == 120 ? 2 : told == 201 ? 3 : 1;
    }

    /** 'all six TRIANGLES .. are there, and IN': each of the six OUT, with another one so that there are LAYINGS. */
    private static void sixTriangles() {
        int[] around = {24, 22, 14, 23, 15, 13};
        int mostLost = 0;
        for (int t : around) {
            boolean up = t % 2 == 0;
            LozengeGrounds best = null;
            for (int other = up ? 1 : 0; other < 50 && best == null; other += 2) {
                LozengeGrounds x = without(ground(5, 5), t, other);
                best = x.lay(0, 0) == 1 && !contains(around, other) ? x : null;
            }
            due("a ground without " + t, best == null ? 0 : 1, 1);
            if (best != null) {
                due("point 2, 2 without " + t, best.point(0, 2, 2), 0);
                due("turn 2, 2 without " + t, best.turn(0, 2, 2), STATE);
                mostLost++;
            }
        }
        due("each of the six", mostLost, 6);
        LozengeGrounds all = ground(5, 5);
        all.lay(0, 0);
        due("point 2, 2 with all six", all.point(0, 2, 2), 1);
    }

    private static boolean contains(int[] all, int one) {
        for (int each : all) {
            if (each == one) {
                return true;
            }
        }
        return false;
    }

    /** POINTS on the rim of a ground that is all IN are not INNER, all others are, and none can be turned. */
    private static void rims() {
        for (int[] s : new int[][] {{1, 1}, {1, 8}, {8, 1}, {2, 2}, {8, 8}, {3, 5}}) {
            LozengeGrounds x = ground(s[0], s[1]);
            x.lay(0, 0);
            for (int y = 0; y <= s[1]; y++) {
                for (int px = 0; px <= s[0]; px++) {
                    boolean rim = px == 0 || y == 0 || px == s[0] || y == s[1];
                    due(s[0] + " by " + s[1] + ": point " + px + ", " + y, x.point(0, px, y), rim ? 0 : 1);
                    due(s[0] + " by " + s[1] + ": turn " + px + ", " + y, x.turn(0, px, y), STATE);
                }
            }
            due("free LOW", x.free(0, false), 0);
            due("free HIGH", x.free(0, true), 0);
            due("place stays", x.place(0), 0);
            due("reach of 1", x.reach(0), 1);
        }
    }

    private static void turnTwice() {
        for (int place = 0; place < 20; place++) {
            LozengeGrounds x = hexagon(2, 2, 2);
            x.lay(0, place);
            x.copy(0, 1);
            for (int at = 0; at < 25; at++) {
                int px = at % 5;
                int y = at / 5;
                int state = x.point(0, px, y);
                int want = state == 2 ? 1 : state == 3 ? 0 : STATE;
                due("turn " + px + ", " + y, x.turn(0, px, y), want);
                due("point turned", x.point(0, px, y), state == 2 ? 3 : state == 3 ? 2 : state);
                due("TURNS since", x.apart(0, 1), state < 2 ? 0 : 1);
                due("turn back " + px + ", " + y, x.turn(0, px, y), want == STATE ? STATE : 1 - want);
                due("PLACE turned twice", x.place(0), place);
            }
            due("the other SLOT stays", x.place(1), place);
        }
    }

    // ---- APART, TOP and BOTTOM, REACH

    private static void apartAndNone() {
        LozengeGrounds x = hexagon(2, 2, 2);
        for (int place = 0; place < 20; place++) {
            x.lay(0, place);
            due("a SLOT and itself", x.apart(0, 0), 0);
            x.copy(0, 1);
            due("two SLOTS that hold the same", x.apart(0, 1), 0);
        }
        LozengeGrounds ring = ring();
        ring.lay(0, 0);
        ring.lay(1, 1);
        due("ring: no TURNS do", ring.apart(0, 1), NONE);
        due("ring: no TURNS do", ring.apart(1, 0), NONE);
        due("ring: itself", ring.apart(1, 1), 0);
        due("ring: reach", ring.reach(0), 1);
        due("ring: end up", ring.end(0, true), 0);
        due("ring: end down", ring.end(0, false), 0);
        due("ring: nothing is moved", ring.place(0), 0);
        due("ring: nothing is moved", ring.place(1), 1);
    }

    private static void endsReached() {
        for (int[] s : new int[][] {{1, 1, 1}, {2, 2, 2}, {7, 7, 1}, {1, 1, 7}, {4, 4, 4}, {2, 1, 3}}) {
            LozengeGrounds x = hexagon(s[0], s[1], s[2]);
            int cubes = s[0] * s[1] * s[2];
            x.lay(0, x.layings() / 2);
            x.copy(0, 1);
            int up = x.end(0, true);
            int down = x.end(1, false);
            due("up and down", up + down, cubes);
            due("TOP already", x.end(0, true), 0);
            due("BOTTOM already", x.end(1, false), 0);
            due("TOP has no LOW", x.free(0, false), 0);
            due("BOTTOM has no HIGH", x.free(1, true), 0);
            due("TOP and BOTTOM are apart", x.apart(0, 1), cubes);
            due("the PLACE of the BOTTOM", x.place(1), 0);
            due("the PLACE of the TOP", x.place(0), x.layings() - 1);
            due("from BOTTOM to TOP", x.end(1, true), cubes);
            due("two TOPS", x.apart(0, 1), 0);
        }
    }

    private static void reachLimits() {
        for (int[] s : new int[][] {{1, 1}, {8, 8}, {1, 8}}) {
            LozengeGrounds x = ground(s[0], s[1]);
            x.lay(2, 0);
            due("no POINT can be turned", x.reach(2), 1);
        }
        reach("1999", without(hexagon(4, 4, 4), 36, 35, 40, 39, 56, 55, 24, 25), 1999, 1999);
        reach("2000", without(hexagon(4, 4, 3), 92, 91, 36, 23, 56, 43, 8, 9), 2000, 2000);
        reach("2001", without(hexagon(4, 4, 3), 6, 5, 38, 25, 56, 57, 40, 41), 2001, SPENT);
        reach("3432", hexagon(7, 7, 1), 3432, SPENT);
        reach("232848", hexagon(4, 4, 4), 232848, SPENT);
    }

    /** The first, one within, and the last PLACE; asked twice, as what is kept must not change it. */
    private static void reach(String name, LozengeGrounds x, long layings, int want) {
        due(name + ": layings", x.layings(), layings);
        x.lay(0, 0);
        x.lay(1, layings / 3);
        x.lay(2, layings - 1);
        for (int i = 0; i < 6; i++) {
            due(name + ": reach", x.reach(i % 3), want);
        }
        due(name + ": nothing is moved", x.place(1), layings / 3);
    }

    /** 2001 is the step itself, so here all are gone to one by one, without reach(). */
    private static void stepOfReach() {
        LozengeGrounds x = without(hexagon(4, 4, 3), 6, 5, 38, 25, 56, 57, 40, 41);
        x.lay(0, 0);
        x.end(0, false);
        int joined = 0;
        for (int place = 0; place < 2001; place++) {
            if (place % 200 == 0) {
                x = without(hexagon(4, 4, 3), 6, 5, 38, 25, 56, 57, 40, 41);
                x.lay(0, 0);
            }
            x.lay(1, place);
            joined += x.apart(0, 1) != NONE ? 1 : 0;
        }
        due("LAYINGS that TURNS join", joined, 2001);
    }

    // ---- MIRROR

    private static void mirrors() {
        int changedMost = 0;
        for (int place = 0; place < 20; place++) {
            LozengeGrounds x = hexagon(2, 2, 2);
            x.lay(0, place);
            x.copy(0, 1);
            int changed = x.mirror(1);
            int differ = 0;
            for (int cell = 0; cell < 16; cell++) {
                int kind = x.kind(0, cell);
                int want = kind == 1 ? 2 : kind == 2 ? 1 : kind;
                due("MIRROR of CELL " + cell, x.kind(1, cell % 4 * 4 + cell / 4), want);
                differ += kind != x.kind(1, cell) ? 1 : 0;
            }
            due("UP with another KIND", changed, differ);
            due("mirror twice", x.mirror(1), changed);
            due("mirror twice", x.place(1), place);
            changedMost = Math.max(changedMost, changed);
        }
        due("a MIRROR that changes all", changedMost, 12);
    }

    private static void noMirrors() {
        mirrorRefused("W is not H", hexagon(2, 1, 3));
        mirrorRefused("W is not H, one row", ground(8, 1));
        mirrorRefused("W is not H, as many CELLS", ground(2, 8));
        mirrorRefused("UP become such that are OUT", only(2, 2, 2, 1));
        mirrorRefused("DOWN become such that are OUT", only(2, 2, 6, 3));
        mirrorRefused("both", only(2, 2, 4, 5));
        mirrorRefused("a hole beside the middle", without(hexagon(2, 2, 2), 12, 13));
        LozengeGrounds one = ground(1, 1);
        one.lay(0, 0);
        due("1 by 1", one.mirror(0), 0);
        LozengeGrounds middle = without(hexagon(2, 2, 2), 10, 11);
        middle.lay(0, 0);
        long place = middle.place(0);
        due("a hole in the middle", middle.mirror(0) >= 0 ? 1 : 0, 1);
        due("a hole in the middle, twice", middle.mirror(0) >= 0 ? middle.place(0) : -1, place);
    }

    private static void mirrorRefused(String name, LozengeGrounds x) {
        due(name + ": lay", x.lay(0, 0), 1);
        due(name + ": mirror", x.mirror(0), STATE);
        due(name + ": mirror of none", x.mirror(1), STATE);
        due(name + ": mirror of no SLOT", x.mirror(4), UNKNOWN);
        due(name + ": place", x.place(0), 0);
    }

    // ---- THE MOST LOZENGES, LACK, THE BAR

    private static void barIs(String name, LozengeGrounds x, int most, int... cells) {
        due(name + ": most", x.most(), most);
        due(name + ": lack", x.lack(), x.ups(true) + x.ups(false) - 2 * most);
        due(name + ": bar", x.bar(), cells.length == 0 ? NONE : cells.length);
        for (int i = 0; i < cells.length; i++) {
            due(name + ": barred(" + i + ")", x.barred(i), cells[i]);
        }
        for (int i : new int[] {-1, cells.length, cells.length + 1, 64, Integer.MIN_VALUE, Integer.MAX_VALUE}) {
            due(name + ": barred(" + i + ")", x.barred(i), NONE);
        }
    }

    private static int[] upTo(int n) {
        int[] all = new int[n];
        Arrays.setAll(all, i -> i);
        return all;
    }

    private static void bars() {
        barIs("nothing IN", only(3, 3), 0);
        barIs("nothing IN, 8 by 8", only(8, 8), 0);
        barIs("all IN", ground(8, 8), 64);
        barIs("1 by 1", ground(1, 1), 1);
        barIs("only UP", oneSide(8, 8, 0), 0, upTo(64));
        barIs("only UP of one CELL", only(1, 1, 0), 0, 0);
        barIs("only UP, some", only(3, 3, 0, 6, 16), 0, 0, 3, 8);
        barIs("only DOWN", oneSide(8, 8, 1), 0);
        barIs("only DOWN of one CELL", only(1, 1, 1), 0);
        barIs("more DOWN than UP, all UP laid", without(ground(3, 3), 0), 8);
        barIs("the first DOWN is OUT", without(ground(8, 8), 1), 63, 0);
        barIs("the last DOWN is OUT", without(ground(8, 8), 127), 63, upTo(64));
        barIs("the last DOWN is OUT, one row", without(ground(8, 1), 15), 7, upTo(8));
        barIs("the last DOWN is OUT, one column", without(ground(1, 8), 15), 7, upTo(8));
        barIs("an UP at a row's start, a DOWN at the end of the row before", only(2, 2, 4, 3), 0, 2);
    }

    private static void leastBars() {
        barIs("an UP laid is no part", only(3, 3, 0, 1, 16), 1, 8);
        barIs("two UP at one DOWN", only(2, 2, 0, 1, 2), 1, 0, 1);
        barIs("three UP at one DOWN", only(2, 2, 0, 1, 2, 4), 1, 0, 1, 2);
        barIs("two UP, bare each", only(3, 3, 0, 16), 0, 0, 8);
        barIs("a bare UP, and two at one DOWN", only(3, 3, 16, 0, 1, 2), 1, 0, 1, 8);
        barIs("a bare UP, and a bare DOWN", only(3, 3, 0, 17), 0, 0);
        barIs("as many of both, and yet a BAR", only(3, 3, 0, 1, 2, 17), 1, 0, 1);
        barIs("as many of both, in a ground", without(ground(3, 3), 1, 16), 7, 0);
        barIs("three UP at two DOWN in a row", only(4, 1, 0, 1, 2, 3, 4), 2, 0, 1, 2);
        barIs("two UP at one DOWN, two laid behind", only(4, 1, 0, 2, 1, 4, 5, 6, 7), 3, 0, 1);
    }

    /** It changes with the ground, and calls that ask do not change it. */
    private static void barsAnew() {
        LozengeGrounds x = ground(3, 3);
        barIs("all IN", x, 9);
        x.set(1, false);
        barIs("the first DOWN OUT", x, 8, 0);
        x.set(0, false);
        barIs("the first UP OUT, too", x, 8);
        x.set(0, true);
        barIs("the first UP IN again", x, 8, 0);
        x.lay(0, 0);
        x.layings();
        barIs("asked again", x, 8, 0);
        x.hexagon(1, 1, 1);
        barIs("hexagon", x, 3);
        x.ground(2, 2);
        barIs("ground", x, 4);
    }

    public static void main(String[] args) {
        newObject();
        groundAnew();
        hexagonAnew();
        trianglesOfHexagons();
        eachAskedFirst();
        reachOnOtherWidth();
        setAgain();
        setAnother();
        for (int[] s : new int[][] {{1, 1}, {8, 8}, {1, 8}, {8, 1}, {4, 4}, {2, 3}}) {
            nothingIn(s[0], s[1]);
        }
        groundsWithoutLaying();
        firstAndLastPlaces();
        placesInOrder();
        weightBounds();
        heaviest();
        firstOfLikeOnes();
        slotsApart();
        upThatIsOut();
        countsAreSpans();
        pointsByKinds();
        sixTriangles();
        rims();
        turnTwice();
        apartAndNone();
        endsReached();
        reachLimits();
        stepOfReach();
        mirrors();
        noMirrors();
        bars();
        leastBars();
        barsAnew();
        System.out.println(wrong == 0 ? "all edges are as due" : wrong + " answers are not as due");
        if (wrong != 0) {
            System.exit(1);
        }
    }
}
