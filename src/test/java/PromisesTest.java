/**
 * Each promise of the document by number: what it asks of ordinary inputs, at the edges that the
 * document names, of wrong inputs, and that what is refused changes nothing. Answers worked by hand.
 */
public final class PromisesTest {
    private static final int UNKNOWN = LozengeGrounds.UNKNOWN;
    private static final int OUTSIDE = LozengeGrounds.OUTSIDE;
    private static final int STATE = LozengeGrounds.STATE;
    private static final int SPENT = LozengeGrounds.SPENT;
    private static final int NONE = LozengeGrounds.NONE;
    private static final int[] NO_SLOTS = {-1, 4, Integer.MIN_VALUE, Integer.MAX_VALUE};

    private static int wrong = 0;

    private static void due(int promise, String call, long got, long want) {
        if (got != want) {
            wrong++;
            System.out.println("promise " + promise + ": " + call + " answered " + got + ", due is " + want);
        }
    }

    private static LozengeGrounds hexagon(int a, int b, int c) {
        LozengeGrounds x = new LozengeGrounds();
        x.hexagon(a, b, c);
        return x;
    }

    private static LozengeGrounds ground(int w, int h) {
        LozengeGrounds x = new LozengeGrounds();
        x.ground(w, h);
        return x;
    }

    private static LozengeGrounds empty(int w, int h) {
        LozengeGrounds x = ground(w, h);
        for (int t = 0; t < 2 * w * h; t++) {
            x.set(t, false);
        }
        return x;
    }

    /** A ground with nothing IN but the TRIANGLES named. */
    private static LozengeGrounds only(int w, int h, int... triangles) {
        LozengeGrounds x = empty(w, h);
        for (int t : triangles) {
            x.set(t, true);
        }
        return x;
    }

    private static void newObject() {
        LozengeGrounds x = new LozengeGrounds();
        due(1, "size(0)", x.size(0), 4);
        due(1, "size(1)", x.size(1), 4);
        due(1, "ups(true)", x.ups(true), 16);
        due(1, "ups(false)", x.ups(false), 16);
        for (int cell = 0; cell < 16; cell++) {
            for (int kind = 0; kind < 3; kind++) {
                due(1, "weight", x.weight(cell, kind, 0), 0);
            }
        }
        for (int slot = 0; slot < 4; slot++) {
            due(1, "place of an empty SLOT", x.place(slot), STATE);
        }
        due(1, "dearest()", x.dearest(), 0);
        due(1, "most()", x.most(), 16);
        LozengeGrounds other = new LozengeGrounds();
        x.ground(2, 2);
        due(1, "size of another object", other.size(0), 4);
        due(1, "UNKNOWN", UNKNOWN, -900001);
        due(1, "OUTSIDE", OUTSIDE, -900002);
        due(1, "STATE", STATE, -900003);
        due(1, "FULL", LozengeGrounds.FULL, -900004);
        due(1, "SPENT", SPENT, -900005);
        due(1, "NONE", NONE, -900009);
    }

    private static void groundMade() {
        for (int w = 1; w <= 8; w++) {
            for (int h = 1; h <= 8; h++) {
                LozengeGrounds x = hexagon(2, 2, 2);
                x.lay(0, 1);
                x.weight(0, 0, 9);
                due(2, "ground", x.ground(w, h), w * h);
                due(2, "size(0)", x.size(0), w);
                due(2, "size(1)", x.size(1), h);
                due(2, "ups(true)", x.ups(true), w * h);
                due(2, "ups(false)", x.ups(false), w * h);
                due(2, "place", x.place(0), STATE);
                due(2, "weight", x.weight(0, 0, 0), 0);
                due(2, "layings", x.layings(), 1);
            }
        }
        LozengeGrounds x = hexagon(2, 2, 2);
        x.lay(0, 7);
        x.weight(5, 1, 3);
        int[][] bad = {{0, 1}, {1, 0}, {9, 1}, {1, 9}, {-1, 4}, {4, -1}, {Integer.MAX_VALUE, 2},
            {2, Integer.MIN_VALUE}, {65536, 65536}};
        for (int[] sides : bad) {
            due(2, "ground", x.ground(sides[0], sides[1]), OUTSIDE);
        }
        unchanged(2, x);
        x.ground(4, 4);
        due(2, "place after the same size", x.place(0), STATE);
        due(2, "weight after the same size", x.weight(5, 1, 0), 0);
    }

    /** Of hexagon 2, 2, 2 with PLACE 7 in SLOT 0 and WEIGHT 3 of CELL 5, KIND 1. */
    private static void unchanged(int promise, LozengeGrounds x) {
        due(promise, "refused: size(0)", x.size(0), 4);
        due(promise, "refused: size(1)", x.size(1), 4);
        due(promise, "refused: ups", x.ups(true) + 100 * x.ups(false), 1212);
        due(promise, "refused: layings", x.layings(), 20);
        due(promise, "refused: place", x.place(0), 7);
        due(promise, "refused: weight", x.weight(5, 1, 3), 3);
        for (int slot = 1; slot < 4; slot++) {
            due(promise, "refused: empty SLOT", x.place(slot), STATE);
        }
    }

    private static LozengeGrounds witness() {
        LozengeGrounds x = hexagon(2, 2, 2);
        x.lay(0, 7);
        x.weight(5, 1, 3);
        return x;
    }

    private static void hexagonMade() {
        LozengeGrounds x = new LozengeGrounds();
        x.lay(2, 0);
        x.weight(3, 2, 5);
        due(3, "hexagon(1, 1, 1)", x.hexagon(1, 1, 1), 6);
        due(3, "size", x.size(0) + 10 * x.size(1), 22);
        due(3, "place", x.place(2), STATE);
        due(3, "weight", x.weight(3, 2, 0), 0);
        int[] in = {0, 1, 1, 1, 1, 1, 1, 0};
        for (int t = 0; t < 8; t++) {
            due(3, "isIn", x.isIn(t), in[t]);
        }
        due(3, "hexagon(2, 1, 3)", x.hexagon(2, 1, 3), 22);
        due(3, "size", x.size(0) + 10 * x.size(1), 45);
        due(3, "hexagon(1, 7, 1)", x.hexagon(1, 7, 1), 30);
        due(3, "hexagon(1, 1, 7)", x.hexagon(1, 1, 7), 30);
        due(3, "hexagon(7, 7, 1)", x.hexagon(7, 7, 1), 126);
        due(3, "hexagon(4, 4, 4)", x.hexagon(4, 4, 4), 96);
        due(3, "size", x.size(0) + 10 * x.size(1), 88);
        LozengeGrounds y = witness();
        for (int[] s : badHexagons()) {
            due(3, "hexagon", y.hexagon(s[0], s[1], s[2]), OUTSIDE);
        }
        unchanged(3, y);
        due(3, "hexagon(2, 2, 2) again", y.hexagon(2, 2, 2), 24);
        due(3, "place", y.place(0), STATE);
        due(3, "weight", y.weight(5, 1, 0), 0);
    }

    private static int[][] badHexagons() {
        return new int[][] {{0, 1, 1}, {1, 0, 1}, {1, 1, 0}, {8, 1, 1}, {1, 8, 1}, {1, 1, 8}, {7, 1, 2}, {1, 7, 2},
            {5, 4, 4}, {4, 5, 4}, {-1, 3, 3}, {3, -1, 3}, {3, 3, -1}, {8, 8, 0}, {Integer.MAX_VALUE, 1, 1},
            {1, Integer.MAX_VALUE, 1}, {1, 1, Integer.MAX_VALUE}, {Integer.MIN_VALUE, 1, 1}};
    }

    private static void triangleSet() {
        LozengeGrounds x = hexagon(2, 2, 2);
        x.lay(0, 3);
        x.weight(5, 1, 9);
        due(4, "set of one that is IN", x.set(11, true), 1);
        due(4, "place", x.place(0), 3);
        due(4, "set of one that is OUT", x.set(0, false), 0);
        due(4, "place", x.place(0), 3);
        due(4, "set", x.set(11, false), 1);
        due(4, "isIn", x.isIn(11), 0);
        due(4, "place", x.place(0), STATE);
        due(4, "layings", x.layings(), 0);
        due(4, "set back", x.set(11, true), 0);
        due(4, "layings", x.layings(), 20);
        due(4, "place stays none", x.place(0), STATE);
        due(4, "weights stay", x.weight(5, 1, 9), 9);
        due(4, "the last", x.set(31, true), 0);
        due(4, "the last", x.isIn(31), 1);
        LozengeGrounds y = witness();
        for (int t : new int[] {-1, 32, Integer.MIN_VALUE, Integer.MAX_VALUE}) {
            due(4, "set", y.set(t, false), UNKNOWN);
            due(4, "set", y.set(t, true), UNKNOWN);
        }
        unchanged(4, y);
        LozengeGrounds z = ground(8, 8);
        due(4, "set(127)", z.set(127, false), 1);
        due(4, "set(126)", z.set(126, false), 1);
        due(4, "set(128)", z.set(128, false), UNKNOWN);
        due(4, "ups", z.ups(true) + 100 * z.ups(false), 6363);
    }

    private static void triangleIn() {
        LozengeGrounds x = ground(3, 2);
        x.set(4, false);
        x.set(9, false);
        for (int t = 0; t < 12; t++) {
            due(5, "isIn", x.isIn(t), t == 4 || t == 9 ? 0 : 1);
        }
        for (int t : new int[] {-1, 12, Integer.MIN_VALUE, Integer.MAX_VALUE}) {
            due(5, "isIn", x.isIn(t), UNKNOWN);
        }
    }

    private static void upsCounted() {
        LozengeGrounds x = ground(3, 2);
        due(6, "ups(true)", x.ups(true), 6);
        x.set(4, false);
        x.set(0, false);
        x.set(9, false);
        due(6, "ups(true)", x.ups(true), 4);
        due(6, "ups(false)", x.ups(false), 5);
        due(6, "ups of nothing", empty(2, 2).ups(true) + empty(2, 2).ups(false), 0);
    }

    private static void sizes() {
        LozengeGrounds x = ground(3, 7);
        due(7, "size(0)", x.size(0), 3);
        due(7, "size(1)", x.size(1), 7);
        due(7, "size(2)", x.size(2), OUTSIDE);
        due(7, "size(-1)", x.size(-1), OUTSIDE);
        due(7, "size", x.size(Integer.MIN_VALUE), OUTSIDE);
    }

    private static void products() {
        LozengeGrounds x = witness();
        due(8, "product(1, 1, 1)", x.product(1, 1, 1), 2);
        due(8, "product(2, 2, 2)", x.product(2, 2, 2), 20);
        due(8, "product(3, 3, 3)", x.product(3, 3, 3), 980);
        due(8, "product(4, 4, 4)", x.product(4, 4, 4), 232848);
        due(8, "product(7, 7, 1)", x.product(7, 7, 1), 3432);
        due(8, "product(1, 1, 7)", x.product(1, 1, 7), 8);
        due(8, "product(2, 1, 3)", x.product(2, 1, 3), 10);
        for (int[] s : badHexagons()) {
            due(8, "product", x.product(s[0], s[1], s[2]), OUTSIDE);
        }
        unchanged(8, x);
    }

    private static void layingsCounted() {
        due(9, "a new one", new LozengeGrounds().layings(), 1);
        due(9, "nothing IN", empty(3, 3).layings(), 1);
        due(9, "hexagon 3, 3, 3", hexagon(3, 3, 3).layings(), 980);
        due(9, "one UP alone", only(2, 2, 0).layings(), 0);
        due(9, "one DOWN alone", only(2, 2, 7).layings(), 0);
        due(9, "KIND 0", only(2, 2, 2, 3).layings(), 1);
        due(9, "KIND 1", only(2, 2, 2, 1).layings(), 1);
        due(9, "KIND 2", only(2, 2, 4, 1).layings(), 1);
        due(9, "UP of a row's first CELL, DOWN of the last before it", only(2, 2, 4, 3).layings(), 0);
        due(9, "not beside", only(2, 2, 0, 7).layings(), 0);
        LozengeGrounds x = ground(8, 8);
        x.set(0, false);
        x.set(127, false);
        due(9, "8 by 8 without two corners", x.layings(), 3432);
    }

    private static void withCounted() {
        LozengeGrounds x = hexagon(1, 1, 1);
        long[] want = {0, 0, 0, 1, 1, 0, 1, 0, 1, 0, 1, 1};
        for (int cell = 0; cell < 4; cell++) {
            for (int kind = 0; kind < 3; kind++) {
                due(10, "with(" + cell + ", " + kind + ")", x.with(cell, kind), want[3 * cell + kind]);
            }
        }
        for (int bad : new int[] {-1, 4, 64, Integer.MIN_VALUE, Integer.MAX_VALUE}) {
            due(10, "with of no CELL", x.with(bad, 0), UNKNOWN);
            due(10, "with of no KIND", x.with(1, bad == 4 ? 3 : bad), UNKNOWN);
        }
        x.set(1, false);
        due(10, "no LAYING", x.with(2, 0), 0);
    }

    private static void kindsSet() {
        LozengeGrounds x = hexagon(1, 1, 1);
        int[] want = {0, 3, 5, 6};
        for (int cell = 0; cell < 4; cell++) {
            due(11, "kinds(" + cell + ")", x.kinds(cell), want[cell]);
        }
        for (int bad : new int[] {-1, 4, Integer.MIN_VALUE, Integer.MAX_VALUE}) {
            due(11, "kinds of no CELL", x.kinds(bad), UNKNOWN);
        }
        x.set(1, false);
        due(11, "no LAYING", x.kinds(1), 0);
    }

    private static void forcedCounted() {
        due(12, "a new one", new LozengeGrounds().forced(), 16);
        due(12, "8 by 8", ground(8, 8).forced(), 64);
        due(12, "hexagon", hexagon(1, 1, 1).forced(), 0);
        due(12, "nothing IN", empty(2, 2).forced(), 0);
        LozengeGrounds x = ground(3, 3);
        x.set(0, false);
        due(12, "no LAYING", x.forced(), 0);
        LozengeGrounds y = hexagon(1, 1, 1);
        y.set(0, true);
        y.set(7, true);
        due(12, "hexagon made a square", y.forced(), 4);
        LozengeGrounds z = ground(3, 2);
        z.set(0, false);
        z.set(9, false);
        due(12, "hexagon and a CELL beside it", z.layings(), 2);
        due(12, "hexagon and a CELL beside it", z.forced(), 2);
    }

    private static void spans() {
        LozengeGrounds x = hexagon(2, 1, 3);
        int[] want = {2, 6, 3};
        for (int kind = 0; kind < 3; kind++) {
            due(13, "span least", x.span(kind, false), want[kind]);
            due(13, "span most", x.span(kind, true), want[kind]);
        }
        LozengeGrounds ring = ground(3, 3);
        ring.set(0, false);
        ring.set(17, false);
        ring.set(8, false);
        ring.set(9, false);
        due(13, "ring", ring.layings(), 2);
        int[] wantRing = {3, 2, 2};
        for (int kind = 0; kind < 3; kind++) {
            due(13, "ring: least", ring.span(kind, false), wantRing[kind]);
            due(13, "ring: most", ring.span(kind, true), wantRing[kind]);
        }
        due(13, "WEIGHTS are no matter", ring.weight(0, 0, 50), 0);
        due(13, "WEIGHTS are no matter", ring.span(0, true), 3);
        due(13, "no KIND", x.span(-1, true), UNKNOWN);
        due(13, "no KIND", x.span(3, false), UNKNOWN);
        due(13, "nothing IN", empty(1, 1).span(2, false), 0);
        x.set(6, false);
        due(13, "no LAYING", x.span(0, true), NONE);
        due(13, "no LAYING", x.span(0, false), NONE);
        due(13, "no LAYING, no KIND", x.span(3, false), UNKNOWN);
    }

    private static void weightsKept() {
        LozengeGrounds x = witness();
        due(14, "weight", x.weight(0, 0, 99), 0);
        due(14, "weight", x.weight(0, 0, -99), 99);
        due(14, "weight", x.weight(0, 1, 5), 0);
        due(14, "weight", x.weight(15, 2, 8), 0);
        due(14, "above", x.weight(0, 0, 100), OUTSIDE);
        due(14, "below", x.weight(0, 0, -100), OUTSIDE);
        due(14, "far", x.weight(0, 0, Integer.MIN_VALUE), OUTSIDE);
        due(14, "no CELL", x.weight(16, 0, 1), UNKNOWN);
        due(14, "no CELL", x.weight(-1, 0, 1), UNKNOWN);
        due(14, "no KIND", x.weight(0, 3, 1), UNKNOWN);
        due(14, "no KIND", x.weight(0, -1, 1), UNKNOWN);
        due(14, "no CELL, outside", x.weight(16, 0, 100), UNKNOWN);
        due(14, "no KIND, outside", x.weight(0, 3, 100), UNKNOWN);
        due(14, "kept", x.weight(0, 0, 0), -99);
        due(14, "kept", x.weight(0, 1, 0), 5);
        due(14, "kept", x.weight(15, 2, 0), 8);
        unchanged(14, x);
    }

    private static void dearestWeighed() {
        LozengeGrounds x = hexagon(1, 1, 1);
        due(15, "none weighed", x.dearest(), 0);
        x.weight(3, 1, -4);
        due(15, "one weighed", x.dearest(), 0);
        x.weight(3, 2, -7);
        due(15, "both weighed", x.dearest(), -4);
        x.weight(0, 0, 99);
        due(15, "a bare CELL weighs nothing", x.dearest(), -4);
        x.set(1, false);
        due(15, "no LAYING", x.dearest(), NONE);
        due(15, "nothing IN", empty(2, 2).dearest(), 0);
        LozengeGrounds y = ground(8, 8);
        for (int cell = 0; cell < 64; cell++) {
            y.weight(cell, 0, -99);
        }
        due(15, "the least", y.dearest(), -99 * 64);
    }

    private static void laid() {
        LozengeGrounds x = hexagon(1, 1, 1);
        for (int slot = 0; slot < 4; slot++) {
            due(16, "lay", x.lay(slot, slot & 1), 1);
            due(16, "place", x.place(slot), slot & 1);
        }
        due(16, "the first", x.kind(0, 1) + 10 * x.kind(0, 2) + 100 * x.kind(0, 3), 120);
        due(16, "the last", x.kind(1, 1) + 10 * x.kind(1, 2) + 100 * x.kind(1, 3), 201);
        for (long bad : new long[] {-1, 2, Long.MIN_VALUE, Long.MAX_VALUE, 1L << 32}) {
            due(16, "lay", x.lay(0, bad), OUTSIDE);
        }
        for (int slot : NO_SLOTS) {
            due(16, "no SLOT", x.lay(slot, 0), UNKNOWN);
            due(16, "no SLOT, no PLACE", x.lay(slot, 2), UNKNOWN);
        }
        due(16, "place kept", x.place(0), 0);
        x.set(1, false);
        due(16, "no LAYING", x.lay(0, 0), OUTSIDE);
        LozengeGrounds y = empty(2, 2);
        due(16, "nothing IN", y.lay(3, 0), 1);
        due(16, "nothing IN", y.lay(3, 1), OUTSIDE);
    }

    private static void dearestLaid() {
        LozengeGrounds x = hexagon(1, 1, 1);
        due(17, "of like ones the first", x.layDearest(1), 0);
        due(17, "of like ones the first", x.place(1), 0);
        x.weight(3, 2, 6);
        due(17, "layDearest", x.layDearest(2), 6);
        due(17, "layDearest", x.kind(2, 3), 2);
        due(17, "layDearest", x.place(2), 1);
        for (int slot : NO_SLOTS) {
            due(17, "no SLOT", x.layDearest(slot), UNKNOWN);
        }
        x.set(1, false);
        due(17, "no LAYING", x.layDearest(0), STATE);
        due(17, "no LAYING, no SLOT", x.layDearest(4), UNKNOWN);
        due(17, "nothing was laid", x.place(0), STATE);
    }

    private static void copied() {
        LozengeGrounds x = witness();
        due(18, "copy", x.copy(0, 3), 1);
        due(18, "place", x.place(3), 7);
        due(18, "to itself", x.copy(0, 0), 1);
        due(18, "place", x.place(0), 7);
        x.lay(3, 5);
        due(18, "they are two", x.place(0), 7);
        due(18, "empty", x.copy(1, 0), STATE);
        due(18, "empty to itself", x.copy(1, 1), STATE);
        due(18, "place kept", x.place(0), 7);
        for (int slot : NO_SLOTS) {
            due(18, "no SLOT", x.copy(slot, 0), UNKNOWN);
            due(18, "no SLOT", x.copy(0, slot), UNKNOWN);
            due(18, "empty, no SLOT", x.copy(1, slot), UNKNOWN);
        }
        due(18, "place kept", x.place(0) + x.place(3), 12);
    }

    private static void placesTold() {
        LozengeGrounds x = hexagon(2, 2, 2);
        for (int place = 0; place < 20; place++) {
            x.lay(0, place);
            due(19, "place", x.place(0), place);
        }
        due(19, "empty", x.place(1), STATE);
        for (int slot : NO_SLOTS) {
            due(19, "no SLOT", x.place(slot), UNKNOWN);
        }
    }

    private static void kindsTold() {
        LozengeGrounds x = hexagon(1, 1, 1);
        due(20, "empty", x.kind(0, 1), STATE);
        due(20, "empty, OUT", x.kind(0, 0), STATE);
        due(20, "empty, no CELL", x.kind(0, 4), UNKNOWN);
        x.lay(0, 0);
        int[] want = {NONE, 0, 2, 1};
        for (int cell = 0; cell < 4; cell++) {
            due(20, "kind", x.kind(0, cell), want[cell]);
        }
        due(20, "no CELL", x.kind(0, 4), UNKNOWN);
        due(20, "no CELL", x.kind(0, -1), UNKNOWN);
        for (int slot : NO_SLOTS) {
            due(20, "no SLOT", x.kind(slot, 0), UNKNOWN);
        }
    }

    private static void counted() {
        LozengeGrounds x = hexagon(2, 1, 3);
        due(21, "empty", x.count(0, 0), STATE);
        due(21, "empty, no KIND", x.count(0, 3), UNKNOWN);
        x.lay(0, 4);
        int[] want = {2, 6, 3};
        for (int kind = 0; kind < 3; kind++) {
            due(21, "count", x.count(0, kind), want[kind]);
        }
        due(21, "no KIND", x.count(0, -1), UNKNOWN);
        for (int slot : NO_SLOTS) {
            due(21, "no SLOT", x.count(slot, 0), UNKNOWN);
        }
    }

    private static void weighed() {
        LozengeGrounds x = hexagon(1, 1, 1);
        due(22, "empty", x.weighs(2), STATE);
        x.lay(2, 0);
        due(22, "weighs", x.weighs(2), 0);
        x.weight(1, 0, 50);
        x.weight(2, 2, -20);
        x.weight(3, 1, 3);
        x.weight(3, 2, 99);
        x.weight(0, 0, 99);
        due(22, "weighs", x.weighs(2), 33);
        x.turn(2, 1, 1);
        due(22, "turned", x.weighs(2), 99);
        for (int slot : NO_SLOTS) {
            due(22, "no SLOT", x.weighs(slot), UNKNOWN);
        }
    }

    private static void pointsTold() {
        LozengeGrounds x = hexagon(2, 2, 2);
        due(23, "empty", x.point(0, 2, 2), STATE);
        due(23, "empty, no POINT", x.point(0, 5, 2), UNKNOWN);
        x.lay(0, 0);
        int inner = 0;
        for (int y = 0; y <= 4; y++) {
            for (int px = 0; px <= 4; px++) {
                inner += x.point(0, px, y) != 0 ? 1 : 0;
            }
        }
        due(23, "INNER", inner, 7);
        due(23, "LOW", x.point(0, 2, 2), 2);
        due(23, "INNER alone", x.point(0, 1, 2), 1);
        due(23, "not INNER", x.point(0, 1, 1), 0);
        due(23, "the far corner", x.point(0, 4, 4), 0);
        x.turn(0, 2, 2);
        due(23, "HIGH", x.point(0, 2, 2), 3);
        int[][] bad = {{-1, 0}, {0, -1}, {5, 0}, {0, 5}, {Integer.MAX_VALUE, 0}, {0, Integer.MIN_VALUE}};
        for (int[] at : bad) {
            due(23, "no POINT", x.point(0, at[0], at[1]), UNKNOWN);
        }
        for (int slot : NO_SLOTS) {
            due(23, "no SLOT", x.point(slot, 2, 2), UNKNOWN);
        }
    }

    private static void freeCounted() {
        LozengeGrounds x = hexagon(2, 2, 2);
        due(24, "empty", x.free(0, true), STATE);
        x.lay(0, 0);
        due(24, "LOW", x.free(0, false), 1);
        due(24, "HIGH", x.free(0, true), 0);
        x.turn(0, 2, 2);
        due(24, "LOW", x.free(0, false), 3);
        due(24, "HIGH", x.free(0, true), 1);
        for (int slot : NO_SLOTS) {
            due(24, "no SLOT", x.free(slot, true), UNKNOWN);
        }
    }

    private static void turned() {
        LozengeGrounds x = hexagon(1, 1, 1);
        due(25, "empty", x.turn(0, 1, 1), STATE);
        due(25, "empty, no POINT", x.turn(0, 3, 1), UNKNOWN);
        x.lay(0, 0);
        due(25, "LOW", x.turn(0, 1, 1), 1);
        due(25, "place", x.place(0), 1);
        due(25, "HIGH", x.turn(0, 1, 1), 0);
        due(25, "place", x.place(0), 0);
        due(25, "neither", x.turn(0, 0, 0), STATE);
        due(25, "neither", x.turn(0, 2, 2), STATE);
        int[][] bad = {{-1, 1}, {1, -1}, {3, 1}, {1, 3}};
        for (int[] at : bad) {
            due(25, "no POINT", x.turn(0, at[0], at[1]), UNKNOWN);
        }
        for (int slot : NO_SLOTS) {
            due(25, "no SLOT", x.turn(slot, 1, 1), UNKNOWN);
        }
        due(25, "place kept", x.place(0), 0);
        LozengeGrounds y = hexagon(2, 2, 2);
        y.lay(0, 0);
        due(25, "INNER alone", y.turn(0, 1, 2), STATE);
        due(25, "place kept", y.place(0), 0);
    }

    private static void apartTold() {
        LozengeGrounds x = hexagon(2, 2, 2);
        x.lay(0, 0);
        due(26, "empty", x.apart(0, 1), STATE);
        due(26, "empty", x.apart(1, 0), STATE);
        due(26, "empty", x.apart(1, 1), STATE);
        x.lay(1, 19);
        due(26, "apart", x.apart(0, 1), 8);
        due(26, "apart", x.apart(1, 0), 8);
        due(26, "itself", x.apart(1, 1), 0);
        due(26, "nothing is moved", x.place(0) + 100 * x.place(1), 1900);
        for (int slot : NO_SLOTS) {
            due(26, "no SLOT", x.apart(slot, 0), UNKNOWN);
            due(26, "no SLOT", x.apart(0, slot), UNKNOWN);
            due(26, "empty, no SLOT", x.apart(3, slot), UNKNOWN);
        }
        LozengeGrounds ring = ground(3, 3);
        ring.set(0, false);
        ring.set(17, false);
        ring.set(8, false);
        ring.set(9, false);
        ring.lay(0, 0);
        ring.lay(1, 1);
        due(26, "no TURNS lead around a hole", ring.apart(0, 1), NONE);
        LozengeGrounds cross = hexagon(2, 2, 2);
        cross.lay(0, 0);
        cross.end(0, false);
        cross.turn(0, 2, 2);
        cross.copy(0, 1);
        turnFirstOther(cross, 0, false);
        turnFirstOther(cross, 1, true);
        due(26, "up one POINT and down another", cross.apart(0, 1), 2);
    }

    /** TURNS the first, or the last, LOW POINT. */
    private static void turnFirstOther(LozengeGrounds x, int slot, boolean last) {
        for (int i = 0; i < 25; i++) {
            int at = last ? 24 - i : i;
            if (x.point(slot, at % 5, at / 5) == 2) {
                x.turn(slot, at % 5, at / 5);
                return;
            }
        }
    }

    private static void ends() {
        LozengeGrounds x = hexagon(2, 2, 2);
        due(27, "empty", x.end(0, true), STATE);
        x.lay(0, 0);
        due(27, "BOTTOM already", x.end(0, false), 0);
        due(27, "TOP", x.end(0, true), 8);
        due(27, "place", x.place(0), 19);
        due(27, "TOP already", x.end(0, true), 0);
        due(27, "BOTTOM", x.end(0, false), 8);
        due(27, "place", x.place(0), 0);
        for (int slot : NO_SLOTS) {
            due(27, "no SLOT", x.end(slot, true), UNKNOWN);
        }
        LozengeGrounds y = hexagon(4, 4, 4);
        y.lay(0, 0);
        y.end(0, false);
        due(27, "the longest way", y.end(0, true), 64);
    }

    private static void reached() {
        LozengeGrounds x = hexagon(2, 2, 2);
        due(28, "empty", x.reach(0), STATE);
        x.lay(0, 13);
        due(28, "reach", x.reach(0), 20);
        due(28, "nothing is moved", x.place(0), 13);
        for (int slot : NO_SLOTS) {
            due(28, "no SLOT", x.reach(slot), UNKNOWN);
        }
        due(28, "hexagon 3, 3, 3", reachOf(hexagon(3, 3, 3)), 980);
        due(28, "nothing IN", reachOf(empty(1, 1)), 1);
        due(28, "hexagon 7, 7, 1", reachOf(hexagon(7, 7, 1)), SPENT);
        due(28, "hexagon 7, 6, 1", reachOf(hexagon(7, 6, 1)), 1716);
        due(28, "hexagon 4, 4, 4", reachOf(hexagon(4, 4, 4)), SPENT);
        reachAtLimit();
    }

    private static int reachOf(LozengeGrounds x) {
        x.lay(3, 0);
        return x.reach(3);
    }

    /** Hexagons with holes of one LOZENGE each, of 2000 and of 2002 LAYINGS that TURNS lead to. */
    private static void reachAtLimit() {
        LozengeGrounds x = hexagon(4, 4, 4);
        for (int t : new int[] {40, 41, 26, 27, 96, 97, 72, 57}) {
            x.set(t, false);
        }
        due(28, "layings at the limit", x.layings(), 2000);
        due(28, "reach at the limit", reachOf(x), 2000);
        LozengeGrounds y = hexagon(4, 3, 4);
        for (int t : new int[] {60, 61, 80, 81, 98, 99}) {
            y.set(t, false);
        }
        due(28, "layings above the limit", y.layings(), 2002);
        due(28, "reach above the limit", reachOf(y), SPENT);
        y.lay(1, 2001);
        due(28, "reach above the limit", y.reach(1), SPENT);
    }

    private static void mirrored() {
        LozengeGrounds x = hexagon(2, 2, 2);
        due(29, "empty", x.mirror(0), STATE);
        x.lay(0, 0);
        due(29, "mirror", x.mirror(0), 12);
        due(29, "place", x.place(0), 19);
        due(29, "back", x.mirror(0), 12);
        due(29, "place", x.place(0), 0);
        for (int slot : NO_SLOTS) {
            due(29, "no SLOT", x.mirror(slot), UNKNOWN);
        }
        LozengeGrounds wide = hexagon(2, 1, 3);
        wide.lay(0, 3);
        due(29, "W is not H", wide.mirror(0), STATE);
        due(29, "place kept", wide.place(0), 3);
        LozengeGrounds crooked = only(2, 2, 2, 3);
        crooked.lay(0, 0);
        due(29, "no LAYING", crooked.mirror(0), STATE);
        due(29, "kind kept", crooked.kind(0, 1), 0);
        LozengeGrounds crookedDown = only(2, 2, 6, 3);
        crookedDown.lay(0, 0);
        due(29, "DOWN are others", crookedDown.mirror(0), STATE);
        LozengeGrounds square = new LozengeGrounds();
        square.lay(0, 0);
        due(29, "its own MIRROR", square.mirror(0), 0);
        due(29, "nothing IN", emptyMirror(), 0);
    }

    private static int emptyMirror() {
        LozengeGrounds x = empty(2, 2);
        x.lay(0, 0);
        return x.mirror(0);
    }

    private static void mostLaid() {
        due(30, "a new one", new LozengeGrounds().most(), 16);
        due(30, "nothing IN", empty(8, 8).most(), 0);
        due(30, "hexagon 4, 4, 4", hexagon(4, 4, 4).most(), 48);
        due(30, "UP alone", only(2, 2, 0, 2, 4).most(), 0);
        due(30, "three UP, one DOWN", only(2, 2, 0, 2, 4, 1).most(), 1);
        due(30, "one UP, three DOWN", only(2, 2, 6, 7, 5, 3).most(), 1);
        due(30, "not around a row's end", only(2, 2, 4, 3).most(), 0);
        LozengeGrounds x = ground(8, 1);
        x.set(15, false);
        due(30, "all pushed by one", x.most(), 7);
        x.set(0, false);
        due(30, "all pushed by one", x.most(), 7);
    }

    private static void lackTold() {
        due(31, "a new one", new LozengeGrounds().lack(), 0);
        due(31, "nothing IN", empty(8, 8).lack(), 0);
        due(31, "three UP, one DOWN", only(2, 2, 0, 2, 4, 1).lack(), 2);
        due(31, "not beside", only(2, 2, 0, 7).lack(), 2);
        due(31, "one UP, three DOWN", only(2, 2, 6, 7, 5, 3).lack(), 2);
    }

    private static void bars() {
        LozengeGrounds x = only(2, 2, 0, 2, 4, 1);
        due(32, "three UP, one DOWN", x.bar(), 3);
        due(33, "barred(0)", x.barred(0), 0);
        due(33, "barred(1)", x.barred(1), 1);
        due(33, "barred(2)", x.barred(2), 2);
        for (int i : new int[] {-1, 3, 64, Integer.MIN_VALUE, Integer.MAX_VALUE}) {
            due(33, "barred", x.barred(i), NONE);
        }
        due(32, "no BAR: too many DOWN", only(2, 2, 6, 7, 5, 3).bar(), NONE);
        due(33, "no BAR: too many DOWN", only(2, 2, 6, 7, 5, 3).barred(0), NONE);
        due(32, "can be laid", new LozengeGrounds().bar(), NONE);
        due(32, "nothing IN", empty(2, 2).bar(), NONE);
        LozengeGrounds y = only(3, 3, 0, 1, 16);
        due(32, "the least of like ones", y.bar(), 1);
        due(33, "the least of like ones", y.barred(0), 8);
        LozengeGrounds z = ground(8, 8);
        z.set(1, false);
        due(32, "8 by 8 without the first DOWN", z.bar(), 1);
        due(33, "8 by 8 without the first DOWN", z.barred(0), 0);
        z.set(1, true);
        z.set(127, false);
        due(32, "8 by 8 without the last DOWN", z.bar(), 64);
        due(33, "8 by 8 without the last DOWN", z.barred(63), 63);
        due(33, "8 by 8 without the last DOWN", z.barred(64), NONE);
        LozengeGrounds both = only(3, 3, 0, 17);
        due(32, "a bare UP and a bare DOWN", both.bar(), 1);
        due(31, "a bare UP and a bare DOWN", both.lack(), 2);
        due(33, "asked first", only(3, 3, 8).barred(0), 4);
    }

    /** 8 by 8, all IN: bits of the last CELL, and none behind it. */
    private static void largest() {
        LozengeGrounds x = ground(8, 8);
        due(14, "weight of the last CELL", x.weight(63, 0, 5), 0);
        due(14, "weight behind the last CELL", x.weight(64, 0, 5), UNKNOWN);
        x.weight(0, 0, 7);
        x.weight(0, 1, 50);
        due(15, "8 by 8", x.dearest(), 12);
        due(17, "8 by 8", x.layDearest(0), 12);
        due(16, "8 by 8", x.lay(1, 0), 1);
        due(16, "8 by 8", x.lay(2, 1), OUTSIDE);
        for (int slot = 0; slot < 2; slot++) {
            for (int cell = 0; cell < 64; cell++) {
                due(20, "8 by 8", x.kind(slot, cell), 0);
            }
            due(19, "8 by 8", x.place(slot), 0);
            due(21, "8 by 8", x.count(slot, 0), 64);
            due(22, "8 by 8", x.weighs(slot), 12);
            due(23, "the far corner", x.point(slot, 8, 8), 0);
            due(23, "behind the far corner", x.point(slot, 9, 8), UNKNOWN);
            due(28, "8 by 8", x.reach(slot), 1);
            due(29, "8 by 8", x.mirror(slot), 0);
        }
        for (int cell = 0; cell < 64; cell++) {
            due(10, "8 by 8", x.with(cell, 0), 1);
            due(11, "8 by 8", x.kinds(cell), 1);
        }
        due(12, "8 by 8", x.forced(), 64);
        due(13, "8 by 8", x.span(0, false), 64);
        due(26, "8 by 8", x.apart(0, 1), 0);
        due(27, "8 by 8", x.end(0, true), 0);
        due(30, "8 by 8", x.most(), 64);
        due(31, "8 by 8", x.lack(), 0);
        due(32, "8 by 8", x.bar(), NONE);
    }

    public static void main(String[] args) {
        largest();
        newObject();
        groundMade();
        hexagonMade();
        triangleSet();
        triangleIn();
        upsCounted();
        sizes();
        products();
        layingsCounted();
        withCounted();
        kindsSet();
        forcedCounted();
        spans();
        weightsKept();
        dearestWeighed();
        laid();
        dearestLaid();
        copied();
        placesTold();
        kindsTold();
        counted();
        weighed();
        pointsTold();
        freeCounted();
        turned();
        apartTold();
        ends();
        reached();
        mirrored();
        mostLaid();
        lackTold();
        bars();
        System.out.println(wrong == 0 ? "all promises are kept" : wrong + " answers are not as due");
        if (wrong != 0) {
            System.exit(1);
        }
    }
}
