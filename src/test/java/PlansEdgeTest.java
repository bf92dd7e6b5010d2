import java.math.BigInteger;

/** Promises 12 to 27: each sentence of the document that names an edge of the plans, on its own. */
public final class PlansEdgeTest {
    private static final int BAD = Edges.BAD, NO = Edges.NO;
    private static final int BAD_PIECE = -100000, NO_PIECE = -200000;
    private static final long BAD_SIDE = -1000000000000L;
    private static final int WAYS = Edges.WAYS, TREES = Edges.TREES, PAIRINGS = Edges.PAIRINGS, LOADS = Edges.LOADS,
        HEAPS = Edges.HEAPS;
    private static final int[] PLANLESS = {WAYS, TREES};
    private static final Edges.Range TWO = new Edges.Range(0, 1);
    private static final Edges EDGES = new Edges();

    private static void due(String sentence, long got, long want) {
        EDGES.due(sentence, got, want);
    }

    private static void refused(String sentence, PriceRise x, Edges.Call call, long refusal) {
        EDGES.leavesAll(sentence, x, call, refusal);
    }

    private static void leavesAll(String sentence, PriceRise x, Edges.Call call, long want) {
        EDGES.leavesAll(sentence, x, call, want);
    }

    private static void outside(String sentence, Edges.Maker maker, Edges.Range range, Edges.Tried call, long refusal) {
        EDGES.outside(sentence, maker, range, call, refusal);
    }

    private static void tells(String sentence, PriceRise x, Edges.Call call, long above, long below) {
        EDGES.tells(sentence, x, call, above, below);
    }

    private static void plan(String sentence, PriceRise x, Edges.Call call, long want, long above, long below) {
        EDGES.plan(sentence, x, call, want, above, below);
    }

    /** Ways side by side, each of one link, with these a, b. */
    private static PriceRise ways(int... lines) {
        PriceRise x = new PriceRise();
        for (int i = 0; i + 1 < lines.length; i += 2) x.link(0, 5, lines[i], lines[i + 1]);
        return x;
    }

    private static PriceRise upTo(int top, PriceRise x) {
        x.top(top);
        return x;
    }

    /** There is no PLAN at all: with parts and without. */
    private static void noPlan(String sentence, Edges.Call call, long want) {
        for (int kind : PLANLESS) {
            leavesAll(sentence + ", KIND " + kind, Edges.planless(kind), call, want);
            leavesAll(sentence + ", no PARTS, KIND " + kind, Edges.bare(kind), call, want);
        }
    }

    // ---- Promise 12

    private static void plansWhat() {
        for (int kind = 0; kind < 5; kind++) {
            int k = kind;
            outside("12 what (0, 1)", () -> Edges.rich(k), TWO, (x, v) -> x.plans(v), BAD);
        }
        for (int kind : PLANLESS) outside("12 what, no PLAN", () -> Edges.planless(kind), TWO, (x, v) -> x.plans(v), BAD);
        noPlan("12 how many PLANS there are: none", x -> x.plans(0), 0);
        noPlan("12 are best at no t: none of none", x -> x.plans(1), 0);
        int[] all = {2, 2, 24, 7, 3}, nowhere = {0, 0, 7, 4, 1};
        for (int kind = 0; kind < 5; kind++) {
            leavesAll("12 PLANS of KIND " + kind, Edges.rich(kind), x -> x.plans(0), all[kind]);
            leavesAll("12 best at no t, KIND " + kind, Edges.rich(kind), x -> x.plans(1), nowhere[kind]);
        }
    }

    private static void plansEmptyAndFull() {
        due("12 the empty LOAD alone", Edges.bare(LOADS).plans(0), 1);
        due("12 the empty HEAP alone", Edges.bare(HEAPS).plans(0), 1);
        due("12 it is best", Edges.bare(LOADS).plans(1), 0);
        due("12 it is best", Edges.bare(HEAPS).plans(1), 0);
        PriceRise x = Edges.bare(LOADS);
        for (int i = 0; i < 8; i++) x.thing(1, 1, 1);
        due("12 all LOADS", x.plans(0), 256);
        due("12 all but the greatest are best at no t", x.plans(1), 255);
        due("12 WAYS side by side, full", wide(WAYS).plans(0), 14);
        due("12 TREES, full", wide(TREES).plans(0), 0);
        PriceRise net = Edges.bare(TREES);
        for (int i = 0; i < 5; i++) for (int j = 0; j < 3; j++) net.link(i, i + 1, 1, 1);
        due("12 TREES of a row, three side by side but the last", net.plans(0), 3 * 3 * 3 * 3 * 2);
        due("12 all alike: nowhere", net.plans(1), 0);
    }

    private static PriceRise wide(int kind) {
        PriceRise x = Edges.bare(kind);
        for (int i = 0; i < 14; i++) x.link(0, 5, i, i);
        return x;
    }

    private static void bestAtOneNumber() {
        due("12 best at 0 alone", ways(4, 12, 4, 100).plans(1), 0);
        due("12 not best at 0", ways(4, 12, 5, 100).plans(1), 1);
        due("12 best at TOP alone", upTo(10, Edges.threeWays()).plans(1), 0);
        due("12 best beyond TOP alone", upTo(9, Edges.threeWays()).plans(1), 1);
        due("12 best at a CHANGE alone", ways(4, 12, 12, 8, 8, 10).plans(1), 0);
        due("12 not best at the CHANGE", ways(4, 12, 12, 8, 9, 10).plans(1), 1);
        due("12 alike with the best", ways(1, 1, 1, 1, 2, 2).plans(1), 1);
        due("12 less steep, but never best", ways(0, 1, 100, 0).plans(1), 0);
        due("12 less steep, but never best", upTo(99, ways(0, 1, 100, 0)).plans(1), 1);
    }

    // ---- Promise 13

    private static void isPlanParts() {
        int[] rich = {6, 6, 16, 3, 2}, full = {14, 14, 16, 8, 8}, none = {0, 0, 16, 0, 0};
        for (int kind = 0; kind < 5; kind++) {
            int k = kind;
            partsThere(() -> Edges.rich(k), rich[kind]);
            partsThere(() -> Edges.full(k), full[kind]);
            partsThere(() -> Edges.bare(k), none[kind]);
        }
    }

    private static void partsThere(Edges.Maker maker, int n) {
        int all = (1 << n) - 1;
        due("13 all PARTS that are there", maker.make().isPlan(all) == BAD ? 1 : 0, 0);
        due("13 no PARTS", maker.make().isPlan(0) == BAD ? 1 : 0, 0);
        outside("13 BAD: PARTS that are not there", maker, new Edges.Range(0, all), (x, v) -> x.isPlan(v), BAD);
        refused("13 BAD: one that is not there", maker.make(), x -> x.isPlan(1 << n), BAD);
        refused("13 BAD: one that is not there among others", maker.make(), x -> x.isPlan(all | 1 << n), BAD);
        refused("13 BAD: the highest bit", maker.make(), x -> x.isPlan(1 << 30), BAD);
        refused("13 BAD: the sign", maker.make(), x -> x.isPlan(Integer.MIN_VALUE | all), BAD);
    }

    private static void isPlanEmpty() {
        int[] empty = {0, 0, 0, 1, 1};
        for (int kind = 0; kind < 5; kind++) {
            leavesAll("13 the empty set, KIND " + kind, Edges.rich(kind), x -> x.isPlan(0), empty[kind]);
            leavesAll("13 the empty set, no PARTS, KIND " + kind, Edges.bare(kind), x -> x.isPlan(0), empty[kind]);
        }
        noPlan("13 where there is no PLAN: 0, not NO", x -> x.isPlan(0), 0);
    }

    private static void isPlanWays() {
        PriceRise x = new PriceRise();
        int[][] links = {{0, 1}, {1, 2}, {2, 3}, {3, 4}, {4, 5}, {0, 5}, {5, 0}, {1, 0}, {2, 1}, {5, 4}, {2, 5}};
        for (int[] l : links) x.link(l[0], l[1], 1, 1);
        due("13 WAY through all POINTS", x.isPlan(31), 1);
        due("13 WAY of one LINK", x.isPlan(32), 1);
        due("13 WAY not to POINT 5", x.isPlan(15), 0);
        due("13 WAY not from POINT 0", x.isPlan(30), 0);
        due("13 WAY against a LINK", x.isPlan(64), 0);
        due("13 WAY and a LINK more", x.isPlan(32 | 1), 0);
        due("13 WAY back to POINT 0", x.isPlan(1 | 128 | 32), 0);
        due("13 WAY through a POINT twice", x.isPlan(1 | 2 | 256 | 1024), 0);
        due("13 WAY beyond POINT 5", x.isPlan(32 | 512), 0);
        due("13 two WAYS", x.isPlan(31 | 32), 0);
        due("13 all WAYS", x.plans(0), 3);
    }

    private static void isPlanTrees() {
        PriceRise x = Edges.bare(TREES);
        int[][] links = {{0, 1}, {2, 1}, {2, 3}, {4, 3}, {4, 5}, {5, 0}, {1, 0}};
        for (int[] l : links) x.link(l[0], l[1], 1, 1);
        due("13 TREE whichever way they point", x.isPlan(31), 1);
        due("13 TREE of four", x.isPlan(15), 0);
        due("13 a round of all", x.isPlan(63), 0);
        due("13 a round of two, one POINT off", x.isPlan(1 | 64 | 2 | 4 | 8), 0);
        due("13 all TREES", x.plans(0), 6 + 5);
        PriceRise row = Edges.bare(TREES);
        for (int i = 0; i < 4; i++) row.link(i, i + 1, 1, 1);
        due("13 one POINT hangs nowhere", row.plans(0), 0);
        row.link(5, 4, 1, 1);
        due("13 now it hangs", row.isPlan(31), 1);
    }

    private static void isPlanPairings() {
        PriceRise x = Edges.bare(PAIRINGS);
        due("13 PAIRING, least", x.isPlan(0x1248), 1);
        due("13 PAIRING, greatest", x.isPlan(0x8421), 1);
        due("13 three pairs", x.isPlan(0x0421), 0);
        due("13 five pairs", x.isPlan(0x8423), 0);
        due("13 a ONE twice, a ONE never", x.isPlan(0x8430), 0);
        due("13 an OTHER twice, an OTHER never", x.isPlan(0x8422), 0);
        due("13 all pairs", x.isPlan(0xffff), 0);
    }

    private static void isPlanLoadsAndHeaps() {
        PriceRise x = Edges.rich(LOADS);
        due("13 as heavy as ROOM", x.isPlan(3), 1);
        due("13 heavier by 1", x.isPlan(7), 0);
        PriceRise heap = Edges.rich(HEAPS);
        due("13 with what it NEEDS", heap.isPlan(3), 1);
        due("13 without what it NEEDS", heap.isPlan(2), 0);
        due("13 what is NEEDED alone", heap.isPlan(1), 1);
    }

    // ---- Promise 14

    private static void bestAtBounds() {
        Edges.Maker maker = () -> Edges.rich(WAYS);
        plan("14 0 <= p", maker.make(), x -> x.bestAt(0, 1), 1, 2, 1);
        refused("14 p is -1", maker.make(), x -> x.bestAt(-1, 1), BAD);
        refused("14 p is -1, q is 1000", maker.make(), x -> x.bestAt(-1, 1000), BAD);
        refused("14 p is the least", maker.make(), x -> x.bestAt(Integer.MIN_VALUE, 1), BAD);
        EDGES.bounds("14 1 <= q <= 1000", maker, new Edges.Range(1, 1000), (x, v) -> x.bestAt(1, v), 1, BAD);
        EDGES.bounds("14 1 <= q <= 1000 at 0", maker, new Edges.Range(1, 1000), (x, v) -> x.bestAt(0, v), 1, BAD);
        refused("14 q is -1 as p is", maker.make(), x -> x.bestAt(-1, -1), BAD);
    }

    private static void bestAtTop() {
        for (int top : new int[] {1, 2, 90, 100}) {
            for (int q : new int[] {1, 7, 999, 1000}) {
                Edges.Maker maker = () -> upTo(top, Edges.rich(HEAPS));
                due("14 t is TOP", maker.make().bestAt(top * q, q), top > 5 ? 3 : 0);
                refused("14 t no more than TOP", maker.make(), x -> x.bestAt(top * q + 1, q), BAD);
                refused("14 t no more than TOP", maker.make(), x -> x.bestAt(Integer.MAX_VALUE, q), BAD);
            }
        }
        refused("14 all too great", Edges.rich(WAYS), x -> x.bestAt(Integer.MAX_VALUE, Integer.MAX_VALUE), BAD);
        refused("14 1 by too much", Edges.rich(WAYS), x -> x.bestAt(1, 1001), BAD);
    }

    private static void bestAtNoPlan() {
        noPlan("14 NO", x -> x.bestAt(0, 1), NO);
        noPlan("14 NO at TOP", x -> x.bestAt(90, 1), NO);
        int[][] bad = {{-1, 1}, {0, 0}, {0, -1}, {0, 1001}, {101, 1}, {100001, 1000}};
        for (int[] v : bad) noPlan("14 BAD ahead of NO", x -> x.bestAt(v[0], v[1]), BAD);
    }

    private static void bestOfKinds() {
        due("14 WAYS, the best: the least", Edges.rich(WAYS).bestAt(90, 1), 2);
        due("14 TREES, the best: the least", Edges.rich(TREES).bestAt(90, 1), 62);
        PriceRise pairs = Edges.bare(PAIRINGS);
        for (int i = 0; i < 16; i++) pairs.put(i, i % 5 == 0 ? 0 : 1, 0);
        due("14 PAIRINGS, the best: the least", pairs.bestAt(90, 1), 0x8421);
        due("14 LOADS, the best: the greatest", Edges.rich(LOADS).bestAt(90, 1), 6);
        due("14 HEAPS, the best: the greatest", Edges.rich(HEAPS).bestAt(90, 1), 3);
    }

    /** The way that holds the link 0 is of a greater number than the one that does not. */
    private static void waysOutOfOrder() {
        PriceRise x = new PriceRise();
        x.link(0, 1, 1, 0);
        x.link(0, 5, 3, 0);
        x.link(1, 5, 2, 0);
        due("14 of like WAYS the least number as bits", x.bestAt(0, 1), 2);
        due("16 of like LINES the least number as bits", x.piece(0, 0), 2);
        due("13 both are PLANS", x.isPlan(2) + x.isPlan(5), 2);
        due("12 and there are two", x.plans(0), 2);
        x.link(1, 5, 1, 0);
        x.link(0, 5, 2, 0);
        due("14 of like WAYS, the one between", x.bestAt(0, 1), 9);
        int[] plans = {2, 5, 9, 16};
        for (int bits = 0; bits < 32; bits++) {
            int want = 0;
            for (int plan : plans) if (plan == bits) want = 1;
            due("13 WAYS told in any order", x.isPlan(bits), want);
        }
    }

    private static void bestAtLikeOnes() {
        plan("14 of like ones the least number", ways(4, 12, 12, 8), x -> x.bestAt(2, 1), 1, 28, 1);
        plan("14 told later, of the least number", ways(12, 8, 4, 12), x -> x.bestAt(2, 1), 1, 28, 1);
        PriceRise x = new PriceRise();
        x.link(0, 1, 1, 0);
        x.link(1, 5, 1, 0);
        x.link(0, 5, 2, 0);
        plan("14 the least number as bits, not the fewest PARTS", x, y -> y.bestAt(0, 1), 3, 2, 1);
        PriceRise trees = Edges.bare(TREES);
        for (int i = 0; i < 5; i++) trees.link(i, i + 1, 0, 0);
        trees.link(5, 0, 0, 0);
        due("14 of like TREES", trees.bestAt(0, 1), 31);
        PriceRise loads = Edges.bare(LOADS);
        loads.thing(1, 0, 0);
        loads.thing(1, 5, 0);
        due("14 a THING that is worth 0 stays out", loads.bestAt(0, 1), 2);
        PriceRise heaps = Edges.bare(HEAPS);
        heaps.block(0, 0);
        due("14 a BLOCK that is worth 0 stays out", heaps.bestAt(100, 1), 0);
    }

    private static void bestAtFraction() {
        plan("14 lowest terms", ways(4, 12), x -> x.bestAt(500, 1000), 1, 10, 1);
        plan("14 below 0: below stays above 0", ways(-4, -12), x -> x.bestAt(1, 1000), 1, -1003, 250);
        plan("14 a sum of 0 is 0 by 1", ways(-1, 7), x -> x.bestAt(1, 7), 1, 0, 1);
        plan("14 0 by 1000 is 0 by 1", ways(0, 7), x -> x.bestAt(0, 1000), 1, 0, 1);
        PriceRise x = Edges.bare(TREES);
        for (int i = 0; i < 5; i++) x.link(i, i + 1, 100, 100);
        plan("14 the greatest sum", x, y -> y.bestAt(100000, 1000), 31, 50500, 1);
        plan("14 just below it", x, y -> y.bestAt(99999, 1000), 31, 100999, 2);
        for (int i = 0; i < 5; i++) x.put(i, -100, -100);
        plan("14 the least sum", x, y -> y.bestAt(100, 1), 31, -50500, 1);
        PriceRise heap = Edges.bare(HEAPS);
        for (int i = 0; i < 8; i++) heap.block(100, 100);
        plan("14 the greatest of HEAPS", heap, y -> y.bestAt(100, 1), 255, 80800, 1);
    }

    // ---- Promises 15, 16, 17

    private static void piecesNoPlan() {
        noPlan("15 NO", x -> x.pieces(), NO);
        for (int kind = 2; kind < 5; kind++) due("15 one at least, KIND " + kind, Edges.bare(kind).pieces(), 1);
        int[] rich = {2, 2, 3, 2, 2};
        for (int kind = 0; kind < 5; kind++) {
            leavesAll("15 pieces change nothing, KIND " + kind, Edges.rich(kind), x -> x.pieces(), rich[kind]);
        }
    }

    private static void asFewAsCanBe() {
        due("15 as few as can be: alike all through", ways(1, 1, 1, 1).pieces(), 1);
        due("15 as few as can be: best at 0 alone", ways(4, 12, 4, 11).pieces(), 1);
        due("15 the one that stays best behind 0", ways(4, 12, 4, 11).piece(0, 0), 2);
        due("15 as few as can be: best at TOP alone", upTo(10, Edges.threeWays()).pieces(), 2);
        due("15 best a little ahead of TOP", upTo(11, Edges.threeWays()).pieces(), 3);
        due("15 best at a CHANGE alone", ways(4, 12, 12, 8, 8, 10).pieces(), 2);
        due("15 many cross at one t", ways(0, 9, 5, 8, 10, 7, 15, 6, 20, 5).pieces(), 2);
        due("15 better by 1 all through", ways(5, 1, 4, 1).piece(0, 0), 2);
        due("15 better by 1 at 0", ways(5, 1, 4, 2).pieces(), 2);
        due("15 TOP is 1: a CHANGE within", upTo(1, ways(0, 2, 1, 0)).pieces(), 2);
        due("15 TOP is 1: a CHANGE there", upTo(1, ways(0, 1, 1, 0)).pieces(), 1);
        PriceRise x = new PriceRise();
        for (int i = 0, a = 0, b = 100; i < 14; i++) {
            x.link(0, 5, a, b);
            a += i + 1;
            b -= 14 - i;
        }
        due("15 each of 14 ways has a piece", x.pieces(), 14);
    }

    private static void likeLines() {
        PriceRise x = ways(4, 12, 4, 12, 12, 8, 12, 8);
        due("15 of like LINES one piece", x.pieces(), 2);
        due("16 of like LINES the PLAN of the least number, first", x.piece(0, 0), 1);
        due("16 of like LINES the PLAN of the least number, next", x.piece(1, 0), 4);
        PriceRise loads = Edges.bare(LOADS);
        loads.thing(1, 0, 0);
        loads.thing(1, -5, 1);
        loads.thing(20, -5, 1);
        due("16 of like LINES, LOADS, first", loads.piece(0, 0), 0);
        due("16 of like LINES, LOADS, next", loads.piece(1, 0), 2);
    }

    private static void pieceBounds() {
        Edges.Maker maker = () -> Edges.threeWays();
        int[][] want = {{1, 4, 12}, {2, 12, 8}, {4, 62, 3}};
        for (int i = 0; i < 3; i++) {
            for (int what = 0; what < 3; what++) {
                int at = i, which = what;
                leavesAll("16 PLAN, a, b of PIECE " + i, maker.make(), x -> x.piece(at, which), want[i][what]);
            }
        }
        for (int what = 0; what < 3; what++) {
            int which = what;
            outside("16 BAD: no such one", maker, new Edges.Range(0, 2), (x, v) -> x.piece(v, which), BAD_PIECE);
            outside("16 BAD: no such one behind the only one", () -> Edges.bare(LOADS), new Edges.Range(0, 0),
                (x, v) -> x.piece(v, which), BAD_PIECE);
        }
        for (int i = -1; i < 4; i++) {
            int at = i;
            outside("16 what (0, 1, 2)", maker, new Edges.Range(0, 2), (x, v) -> x.piece(at, v), BAD_PIECE);
        }
        due("16 a below 0", ways(-100, -100).piece(0, 1), -100);
        due("16 b below 0", ways(-100, -100).piece(0, 2), -100);
    }

    private static void pieceNoPlan() {
        for (int what = 0; what < 3; what++) {
            int which = what;
            noPlan("16 NO: -200000", x -> x.piece(0, which), NO_PIECE);
            noPlan("16 NO: -200000, a later one", x -> x.piece(3, which), NO_PIECE);
            noPlan("16 BAD ahead of NO: i", x -> x.piece(-1, which), BAD_PIECE);
        }
        noPlan("16 BAD ahead of NO: what", x -> x.piece(0, -1), BAD_PIECE);
        noPlan("16 BAD ahead of NO: what", x -> x.piece(0, 3), BAD_PIECE);
    }

    private static void changeBounds() {
        tells("17 CHANGE 0", Edges.threeWays(), x -> x.change(0), 2, 1);
        tells("17 CHANGE i, i is PIECES less 2", Edges.threeWays(), x -> x.change(1), 10, 1);
        outside("17 CHANGE i (0 .. PIECES less 2)", Edges::threeWays, TWO, (x, v) -> x.change(v), BAD);
        int[] rich = {2, 2, 3, 2, 2};
        for (int kind = 0; kind < 5; kind++) {
            int k = kind;
            outside("17 CHANGE i, KIND " + kind, () -> Edges.rich(k), new Edges.Range(0, rich[k] - 2), (x, v) -> x.change(v), BAD);
        }
        for (int kind = 2; kind < 5; kind++) {
            refused("17 BAD: one PIECE has no CHANGE", Edges.bare(kind), x -> x.change(0), BAD);
        }
        PriceRise x = Edges.threeWays();
        x.top(10);
        refused("17 BAD: at TOP is no CHANGE", x, y -> y.change(1), BAD);
        x.top(2);
        refused("17 BAD: at TOP is no CHANGE", x, y -> y.change(0), BAD);
        noPlan("17 NO", y -> y.change(0), NO);
        noPlan("17 BAD ahead of NO", y -> y.change(-1), BAD);
        noPlan("17 BAD ahead of NO", y -> y.change(Integer.MIN_VALUE), BAD);
    }

    private static void changeFractions() {
        tells("17 lowest terms", ways(0, 6, 4, 0), x -> x.change(0), 2, 3);
        tells("17 the least", ways(-1, 100, 0, -100), x -> x.change(0), 1, 200);
        tells("17 just ahead of TOP", ways(-99, 1, 100, -1), x -> x.change(0), 199, 2);
        due("17 at TOP is none", ways(-100, 1, 100, -1).pieces(), 1);
        tells("17 of HEAPS", Edges.rich(HEAPS), x -> x.change(0), 5, 1);
    }

    // ---- Promises 18, 19

    private static void highestWhat() {
        tells("18 the t", Edges.rich(WAYS), x -> x.highest(0), 5, 1);
        tells("18 how much", Edges.rich(WAYS), x -> x.highest(1), 7, 1);
        for (int kind = 0; kind < 5; kind++) {
            int k = kind;
            outside("18 what (0, 1)", () -> Edges.rich(k), TWO, (x, v) -> x.highest(v), BAD);
        }
        for (int what : new int[] {0, 1}) noPlan("18 NO", x -> x.highest(what), NO);
        for (int what : TWO.outside()) noPlan("18 BAD ahead of NO", x -> x.highest(what), BAD);
    }

    private static void highestLikeOnes() {
        tells("18 of like ones the least t: all through", ways(7, 0), x -> x.highest(0), 0, 1);
        tells("18 of like ones the least t: all through, how much", ways(7, 0), x -> x.highest(1), 7, 1);
        tells("18 of like ones the least t: from a CHANGE on", ways(0, 4, 7, 0, 30, -1), x -> x.highest(0), 7, 4);
        tells("18 of like ones the least t: to the end", ways(0, 4, 7, 0), x -> x.highest(0), 7, 4);
        tells("18 of like ones the least t: from 0", ways(7, 0, 30, -1), x -> x.highest(0), 0, 1);
        PriceRise x = Edges.bare(LOADS);
        x.thing(20, 30, -1);
        x.thing(20, 0, 1);
        x.top(30);
        tells("18 as high at 0 as at TOP", x, y -> y.highest(0), 0, 1);
        x.top(31);
        tells("18 higher at TOP", x, y -> y.highest(0), 31, 1);
        x.top(29);
        tells("18 higher at 0", x, y -> y.highest(0), 0, 1);
        tells("18 the empty LOAD", Edges.bare(LOADS), y -> y.highest(1), 0, 1);
    }

    private static void highestEnds() {
        tells("18 rising: at TOP", upTo(1, ways(-100, 1)), x -> x.highest(0), 1, 1);
        tells("18 rising: how much", upTo(1, ways(-100, 1)), x -> x.highest(1), -99, 1);
        tells("18 falling: at 0", ways(-1, -100), x -> x.highest(0), 0, 1);
        tells("18 falling: how much", ways(-1, -100), x -> x.highest(1), -1, 1);
        tells("18 lowest terms", ways(0, 6, 4, -2), x -> x.highest(0), 1, 2);
        tells("18 how much there", ways(0, 5, 4, -2), x -> x.highest(1), 20, 7);
    }

    private static void spanPlans() {
        int[] one = {1, 61, 0x8421, 3, 3}, parts = {6, 6, 16, 3, 2}, noPlan = {3, 63, 1, 7, 2};
        for (int kind = 0; kind < 5; kind++) {
            int k = kind;
            Edges.Maker maker = () -> Edges.rich(k);
            outside("19 from (0), to (1)", maker, TWO, (x, v) -> x.span(one[k], v), BAD);
            outside("19 BAD: PARTS that are not there", maker, new Edges.Range(0, (1 << parts[k]) - 1), (x, v) -> x.span(v, 0), BAD);
            refused("19 BAD: one PART that is not there", maker.make(), x -> x.span(one[k] | 1 << parts[k], 0), BAD);
            refused("19 BAD: it is no PLAN, too", maker.make(), x -> x.span(noPlan[k], 0), BAD);
            refused("19 BAD: it is no PLAN, too", maker.make(), x -> x.span(noPlan[k], 1), BAD);
        }
        for (int kind = 0; kind < 3; kind++) refused("19 BAD: the empty set", Edges.rich(kind), x -> x.span(0, 0), BAD);
        noPlan("19 BAD: there is no PLAN", x -> x.span(0, 0), BAD);
        noPlan("19 BAD: there is no PLAN", x -> x.span(1, 1), BAD);
    }

    private static void spanNone() {
        Edges.Maker maker = () -> {
            PriceRise x = Edges.rich(WAYS);
            x.link(0, 5, 100, 100);
            return x;
        };
        leavesAll("19 none: from", maker.make(), x -> x.span(64, 0), 0);
        leavesAll("19 none: to", maker.make(), x -> x.span(64, 1), 0);
        outside("19 BAD ahead of none", maker, TWO, (x, v) -> x.span(64, v), BAD);
        leavesAll("19 beyond TOP: none", upTo(9, Edges.threeWays()), x -> x.span(4, 0), 0);
    }

    private static void spanOf(String sentence, PriceRise x, int plan, long[] from, long[] to) {
        tells(sentence + ": from", x, y -> y.span(plan, 0), from[0], from[1]);
        tells(sentence + ": to", x, y -> y.span(plan, 1), to[0], to[1]);
    }

    private static void spanEnds() {
        long[] zero = {0, 1}, two = {2, 1}, ten = {10, 1}, end = {100, 1};
        spanOf("19 all t from 0 to TOP", ways(1, 1), 1, zero, end);
        spanOf("19 from 0", Edges.threeWays(), 1, zero, two);
        spanOf("19 between", Edges.threeWays(), 2, two, ten);
        spanOf("19 to TOP", Edges.threeWays(), 4, ten, end);
        spanOf("19 at TOP alone", upTo(10, Edges.threeWays()), 4, ten, ten);
        spanOf("19 at 0 alone", ways(4, 12, 4, 13), 2, zero, zero);
        spanOf("19 at a CHANGE alone", ways(4, 12, 12, 8, 8, 10), 4, two, two);
        spanOf("19 of like LINES that of the greater number, too", ways(4, 12, 12, 8, 12, 8), 4, two, end);
        spanOf("19 lowest terms", ways(0, 6, 4, 0), 2, new long[] {2, 3}, end);
        spanOf("19 the empty LOAD", Edges.bare(LOADS), 0, zero, end);
        spanOf("19 the empty HEAP", Edges.rich(HEAPS), 0, zero, new long[] {5, 1});
    }

    // ---- Promise 20

    private static void toleranceBounds() {
        int[] parts = {6, 6, 16, 3, 2};
        for (int kind = 0; kind < 5; kind++) {
            int k = kind;
            Edges.Maker maker = () -> Edges.rich(k);
            for (int up = 0; up < 2; up++) {
                int which = up;
                outside("20 a PART", maker, new Edges.Range(0, parts[k] - 1), (x, v) -> x.tolerance(v, 0, which), BAD);
                outside("20 t (0 .. TOP, whole)", maker, new Edges.Range(0, 90), (x, v) -> x.tolerance(0, v, which), BAD);
            }
            outside("20 more (1), less (0)", maker, TWO, (x, v) -> x.tolerance(0, 0, v), BAD);
        }
        due("20 t is 0", Edges.rich(WAYS).tolerance(0, 0, 1), 1);
        due("20 t is TOP", Edges.rich(WAYS).tolerance(1, 90, 1), 1);
        refused("20 t is 1 beyond TOP", upTo(1, Edges.rich(WAYS)), x -> x.tolerance(0, 2, 1), BAD);
        tells("20 t is TOP, which is 1", upTo(1, Edges.rich(WAYS)), x -> x.tolerance(0, 1, 1), 8, 1);
        due("20 the last PART", Edges.rich(PAIRINGS).tolerance(15, 0, 0), 1);
    }

    private static void toleranceNoPlan() {
        for (int kind : PLANLESS) {
            for (int up = 0; up < 2; up++) {
                int which = up;
                refused("20 NO", Edges.planless(kind), x -> x.tolerance(0, 0, which), NO);
                refused("20 NO", Edges.planless(kind), x -> x.tolerance(1, 90, which), NO);
            }
            int[][] bad = {{-1, 0, 0}, {2, 0, 0}, {0, -1, 0}, {0, 91, 0}, {0, 0, -1}, {0, 0, 2}};
            for (int[] v : bad) refused("20 BAD ahead of NO", Edges.planless(kind), x -> x.tolerance(v[0], v[1], v[2]), BAD);
            refused("20 BAD: no PARTS, ahead of NO", Edges.bare(kind), x -> x.tolerance(0, 0, 0), BAD);
        }
        for (int kind : new int[] {LOADS, HEAPS}) refused("20 BAD: no PARTS", Edges.bare(kind), x -> x.tolerance(0, 0, 0), BAD);
    }

    private static void toleranceWithoutEnd() {
        leavesAll("20 without end: a PART of the best costs less", Edges.threeWays(), x -> x.tolerance(0, 0, 0), 0);
        leavesAll("20 without end: another costs more", Edges.threeWays(), x -> x.tolerance(2, 0, 1), 0);
        leavesAll("20 without end: a PART of all PLANS", Edges.rich(TREES), x -> x.tolerance(2, 50, 1), 0);
        leavesAll("20 without end: a PART of all PLANS", Edges.rich(TREES), x -> x.tolerance(2, 50, 0), 0);
        leavesAll("20 without end: a PART of no PLAN", Edges.rich(WAYS), x -> x.tolerance(2, 50, 0), 0);
        leavesAll("20 without end: a PART of no PLAN", Edges.rich(WAYS), x -> x.tolerance(2, 50, 1), 0);
        leavesAll("20 without end: a THING of the best is worth more", Edges.rich(LOADS), x -> x.tolerance(0, 0, 1), 0);
        leavesAll("20 without end: another is worth less", Edges.rich(LOADS), x -> x.tolerance(2, 0, 0), 0);
        PriceRise heavy = Edges.rich(LOADS);
        heavy.thing(34, 100, 100);
        leavesAll("20 without end: a THING too heavy", heavy, x -> x.tolerance(3, 0, 1), 0);
        leavesAll("20 without end: the only PLAN", ways(1, 1), x -> x.tolerance(0, 0, 1), 0);
    }

    private static void toleranceAtMost() {
        tells("20 by how much, at most: more", Edges.threeWays(), x -> x.tolerance(0, 0, 1), 8, 1);
        tells("20 by how much, at most: less", Edges.threeWays(), x -> x.tolerance(2, 0, 0), 58, 1);
        tells("20 alike already: 0, not without end", Edges.threeWays(), x -> x.tolerance(0, 2, 1), 0, 1);
        tells("20 alike already: 0, not without end", Edges.threeWays(), x -> x.tolerance(1, 2, 0), 0, 1);
        leavesAll("20 alike: the one that isn't BEST AT t costs more", Edges.threeWays(), x -> x.tolerance(1, 2, 1), 0);
        leavesAll("20 alike: the one that is BEST AT t costs less", Edges.threeWays(), x -> x.tolerance(0, 2, 0), 0);
        tells("20 at t, not ahead of it", Edges.threeWays(), x -> x.tolerance(1, 4, 1), 8, 1);
        tells("20 worth less", Edges.rich(LOADS), x -> x.tolerance(0, 0, 0), 10, 1);
        tells("20 another is worth more", Edges.rich(LOADS), x -> x.tolerance(2, 0, 1), 5, 1);
        tells("20 of HEAPS: with what it NEEDS", Edges.rich(HEAPS), x -> x.tolerance(1, 0, 1), 5, 1);
        tells("20 a THING worth 0 that stays out", Edges.rich(LOADS), x -> x.tolerance(1, 0, 1), 0, 1);
        tells("20 the greatest", ways(-100, -100, 100, 100), x -> x.tolerance(0, 100, 1), 20200, 1);
    }

    // ---- Promises 21, 22

    private static void ratioRefused() {
        noPlan("21 NO", x -> x.ratio(), NO);
        for (int kind : new int[] {LOADS, HEAPS}) {
            refused("21 NO: of LOADS, HEAPS", Edges.rich(kind), x -> x.ratio(), NO);
            refused("21 NO: of LOADS, HEAPS, no PARTS", Edges.bare(kind), x -> x.ratio(), NO);
        }
        refused("21 NO: a b is 0", ways(1, 1, 5, 0), x -> x.ratio(), NO);
        refused("21 NO: a b is below 0", ways(1, 1, 5, -1), x -> x.ratio(), NO);
        refused("21 NO: the first b is 0", ways(5, 0, 1, 1), x -> x.ratio(), NO);
        refused("21 NO: PAIRINGS at first", Edges.bare(PAIRINGS), x -> x.ratio(), NO);
        refused("21 NO: a b of TREES is 0", Edges.rich(TREES), x -> x.ratio(), NO);
        plan("21 all b are 1", ways(3, 1, 2, 1), x -> x.ratio(), 2, 2, 1);
    }

    private static void ratioOfPlans() {
        PriceRise x = ways(3, 1);
        x.link(1, 2, 0, -100);
        plan("21 all b of PLANS, not of PARTS", x, y -> y.ratio(), 1, 3, 1);
        PriceRise y = new PriceRise();
        y.link(0, 1, 5, -1);
        y.link(1, 5, 5, 2);
        plan("21 a PART's b below 0, the PLAN's is 1", y, z -> z.ratio(), 3, 10, 1);
        PriceRise pairs = Edges.bare(PAIRINGS);
        for (int i = 0; i < 4; i++) pairs.pair(0, i, 0, 1);
        plan("21 of PAIRINGS, alike all", pairs, z -> z.ratio(), 0x1248, 0, 1);
    }

    private static void ratioLikeOnes() {
        plan("21 of like ones the least number", ways(1, 3, 2, 6), x -> x.ratio(), 1, 1, 3);
        plan("21 of like ones the least number", ways(2, 6, 1, 3), x -> x.ratio(), 1, 1, 3);
        plan("21 of like ones, below 0", ways(-2, 4, 5, 1, -1, 2), x -> x.ratio(), 1, -1, 2);
        plan("21 a of 0", ways(0, 5, 0, 7), x -> x.ratio(), 1, 0, 1);
        plan("21 the greatest and the least", ways(100, 1, -100, 1), x -> x.ratio(), 2, -100, 1);
        plan("21 a little less", ways(100, 99, 99, 98, 98, 97), x -> x.ratio(), 1, 100, 99);
    }

    private static void rueEdges() {
        noPlan("22 NO", x -> x.rue(), NO);
        plan("22 the only PLAN: nothing to rue", ways(5, 5), x -> x.rue(), 1, 0, 1);
        plan("22 the empty LOAD", Edges.bare(LOADS), x -> x.rue(), 0, 0, 1);
        plan("22 of like ones the least number: all alike", Edges.bare(PAIRINGS), x -> x.rue(), 0x1248, 0, 1);
        plan("22 of like ones the least number: one rues at 0, one at TOP", upTo(2, ways(1, 0, 0, 1)), x -> x.rue(), 1, 1, 1);
        plan("22 of like ones the least number: told the other way", upTo(2, ways(0, 1, 1, 0)), x -> x.rue(), 1, 1, 1);
        plan("22 over all t to TOP, which is 1", upTo(1, ways(1, 0, 0, 1)), x -> x.rue(), 2, 0, 1);
        plan("22 over all t to TOP, which is 3", upTo(3, ways(1, 0, 0, 1)), x -> x.rue(), 1, 1, 1);
        plan("22 best nowhere, least to rue", upTo(20, ways(0, 10, 100, 5, 100, 0, 31, 7)), x -> x.rue(), 8, 71, 1);
        plan("22 the least of three", ways(0, 90, 60, 0, 80, 0), x -> x.rue(), 2, 60, 1);
        plan("22 the loss at 0 is against the best at 0", ways(0, 5, 10, 0, 1, 8), x -> x.rue(), 2, 10, 1);
        plan("22 the loss at TOP is against the best at TOP", upTo(40, ways(0, 3, 50, 1, 100, 0)), x -> x.rue(), 1, 30, 1);
        plan("22 the greatest", ways(-100, 100, 100, -100), x -> x.rue(), 2, 200, 1);
        plan("22 of LOADS at 0", Edges.rich(LOADS), x -> x.rue(), 6, 15, 1);
    }

    // ---- Promises 23, 24

    private static void grownEdges() {
        for (int kind = 0; kind < 4; kind++) {
            refused("23 NO: THE KIND is not HEAPS", Edges.rich(kind), x -> x.grown(), NO);
            refused("23 NO: THE KIND is not HEAPS, no PARTS", Edges.bare(kind), x -> x.grown(), NO);
        }
        leavesAll("23 one PIECE, the empty HEAP", Edges.bare(HEAPS), x -> x.grown(), 1);
        leavesAll("23 from the empty HEAP on", Edges.rich(HEAPS), x -> x.grown(), 1);
        PriceRise x = Edges.bare(HEAPS);
        x.block(5, -1);
        due("23 asked first", x.grown(), 0);
        leavesAll("23 to the empty HEAP", x, y -> y.grown(), 0);
        x.top(5);
        leavesAll("23 only at TOP", x, y -> y.grown(), 1);
        x.top(6);
        leavesAll("23 ahead of TOP", x, y -> y.grown(), 0);
        x.block(-10, 2);
        leavesAll("23 one comes as one goes", x, y -> y.grown(), 0);
        x.put(0, 5, 0);
        leavesAll("23 one stays", x, y -> y.grown(), 1);
    }

    private static void grownEachPiece() {
        PriceRise x = Edges.bare(HEAPS);
        x.block(-10, 1);
        x.block(-20, 1);
        x.block(30, -1);
        leavesAll("23 each PIECE's: the last alone does not", x, y -> y.grown(), 0);
        x.top(30);
        leavesAll("23 each PIECE's: all grow", x, y -> y.grown(), 1);
    }

    private static void paceEdges() {
        noPlan("24 NO", x -> x.pace(), NO);
        leavesAll("24 the same all through", ways(1, 1), x -> x.pace(), 0);
        leavesAll("24 at TOP, which is 1", upTo(1, ways(1, 0, 0, 2)), x -> x.pace(), 1);
        leavesAll("24 at TOP, of like ones the least number", upTo(1, ways(1, 0, 0, 1)), x -> x.pace(), 1);
        leavesAll("24 at TOP, the like one is of a greater number", upTo(1, ways(0, 1, 1, 0)), x -> x.pace(), 0);
        leavesAll("24 from 0 on, of like ones the least number", upTo(1, ways(0, 1, 0, 0)), x -> x.pace(), 1);
        leavesAll("24 beyond TOP", upTo(1, ways(0, 2, 3, 0)), x -> x.pace(), 0);
        leavesAll("24 what would be best ahead of 0", ways(0, 1, 1, 3), x -> x.pace(), 0);
        leavesAll("24 two CHANGES between two whole t", ways(0, 10, 2, 5, 4, 0), x -> x.pace(), 1);
        leavesAll("24 alike with others at 1: the least number stays", upTo(2, ways(1, 1, 4, -2, 2, 0)), x -> x.pace(), 1);
        PriceRise x = new PriceRise();
        x.link(0, 5, 20, 0);
        x.link(0, 5, 0, 2);
        x.link(0, 5, 40, -2);
        leavesAll("24 a PLAN of one t alone counts twice", x, y -> y.pace(), 2);
    }

    // ---- Promises 25, 26, 27

    private static void partEdges() {
        for (int kind = 0; kind < 5; kind++) {
            int k = kind;
            outside("25 above (0), below (1)", () -> Edges.rich(k), TWO, (x, v) -> x.part(v), BAD_SIDE);
            leavesAll("25 above", Edges.rich(kind), x -> x.part(0), 7);
            leavesAll("25 below", Edges.rich(kind), x -> x.part(1), 3);
        }
        outside("25 BAD at first", PriceRise::new, TWO, (x, v) -> x.part(v), BAD_SIDE);
        PriceRise x = Edges.rich(WAYS);
        x.clear();
        x.pieces();
        x.bestAt(0, 1);
        EDGES.check.fraction("25 refused: it stays", x, 7, 3);
    }

    private static void countEdges() {
        int[] rich = {6, 6, 16, 3, 2}, full = {14, 14, 16, 8, 8}, none = {0, 0, 16, 0, 0};
        for (int kind = 0; kind < 5; kind++) {
            int k = kind;
            outside("26 what (0 .. 3)", () -> Edges.rich(k), new Edges.Range(0, 3), (x, v) -> x.count(v), BAD);
            counts(() -> Edges.rich(k), 6, 3, 2, rich[kind]);
            counts(() -> Edges.full(k), 14, 8, 8, full[kind]);
            counts(() -> Edges.bare(k), 0, 0, 0, none[kind]);
        }
    }

    private static void counts(Edges.Maker maker, int links, int things, int blocks, int parts) {
        leavesAll("26 LINKS", maker.make(), x -> x.count(0), links);
        leavesAll("26 THINGS", maker.make(), x -> x.count(1), things);
        leavesAll("26 BLOCKS", maker.make(), x -> x.count(2), blocks);
        leavesAll("26 PARTS of THE KIND", maker.make(), x -> x.count(3), parts);
    }

    private static long wrapped(long[]... rows) {
        BigInteger h = BigInteger.valueOf(443);
        for (long[] row : rows) for (long v : row) h = h.multiply(BigInteger.valueOf(31)).add(BigInteger.valueOf(v));
        return h.longValue();
    }

    private static void digestAtFirst() {
        long[] pairs = new long[32];
        due("27 a new object", new PriceRise().digest(), wrapped(new long[] {100, 0, 0, 0, 0, 0}, pairs, new long[] {20, 0, 1}));
        due("27 count(3) of PAIRINGS", Edges.bare(PAIRINGS).digest(),
            wrapped(new long[] {100, 2, 0, 0, 0, 16}, pairs, new long[] {20, 0, 1}));
    }

    private static void digestFull() {
        PriceRise x = Edges.bare(HEAPS);
        long[] links = new long[56], pairs = new long[32], things = new long[24], blocks = new long[24];
        for (int i = 0; i < 14; i++) {
            x.link(i % 6, (i + 1) % 6, 100 - i, i - 100);
            System.arraycopy(new long[] {i % 6, (i + 1) % 6, 100 - i, i - 100}, 0, links, 4 * i, 4);
        }
        for (int i = 0; i < 16; i++) {
            x.pair(i / 4, i % 4, -100 + i, 100 - i);
            pairs[2 * i] = -100 + i;
            pairs[2 * i + 1] = 100 - i;
        }
        for (int i = 0; i < 8; i++) {
            x.thing(50 - i, -i, i);
            System.arraycopy(new long[] {50 - i, -i, i}, 0, things, 3 * i, 3);
            x.block(i, -i);
            System.arraycopy(new long[] {i, -i, 255 - (1 << i)}, 0, blocks, 3 * i, 3);
        }
        for (int i = 0; i < 8; i++) for (int j = 0; j < 8; j++) x.needs(i, j, true);
        x.room(200);
        x.top(1);
        due("27 the best of none or all", x.bestAt(999, 1000), 255);
        EDGES.check.fraction("27 THE FRACTION", x, 7, 250);
        due("27 goes round in a long, all full", x.digest(),
            wrapped(new long[] {1, 4, 14, 8, 8, 8}, links, pairs, things, new long[] {200}, blocks, new long[] {7, 250}));
    }

    private static final Edges.Call[] ASKED = {x -> x.plans(0), x -> x.plans(1), x -> x.isPlan(3), x -> x.bestAt(7, 2),
        x -> x.pieces(), x -> x.piece(1, 0), x -> x.change(0), x -> x.highest(0), x -> x.highest(1), x -> x.span(3, 1),
        x -> x.span(1, 0), x -> x.tolerance(0, 7, 0), x -> x.tolerance(1, 7, 1), x -> x.ratio(), x -> x.rue(),
        x -> x.grown(), x -> x.pace(), x -> x.count(3)};

    /** No answer hangs on what was asked ahead of it. */
    private static void askedFirst() {
        for (int kind = 0; kind < 5; kind++) {
            PriceRise asked = Edges.rich(kind);
            for (Edges.Call call : ASKED) call.on(asked);
            for (int i = 0; i < ASKED.length; i++) {
                PriceRise fresh = Edges.rich(kind);
                due("12 to 26 asked first, KIND " + kind + ", call " + i, ASKED[i].on(fresh), ASKED[i].on(asked));
            }
        }
    }

    /** What more PLANS there were ahead of clear, better ones than now, is gone. */
    private static void fewerThanAhead() {
        PriceRise x = ways(5, 5, 6, 4, -100, 9, 90, 1, 7, 3);
        for (Edges.Call call : ASKED) call.on(x);
        x.clear();
        x.link(0, 5, 5, 5);
        x.link(0, 5, 6, 4);
        PriceRise fresh = ways(5, 5, 6, 4);
        // Both begin with the same FRACTION, which some of the calls leave as it is.
        x.bestAt(0, 1);
        fresh.bestAt(0, 1);
        for (int i = 0; i < ASKED.length; i++) {
            due("11 fewer than ahead, call " + i, ASKED[i].on(x), ASKED[i].on(fresh));
            EDGES.check.fraction("11 fewer than ahead, call " + i, x, fresh.part(0), fresh.part(1));
        }
    }

    private static void digestChangesNothing() {
        for (int kind = 0; kind < 5; kind++) {
            PriceRise x = Edges.full(kind);
            leavesAll("27 digest changes nothing", x, y -> 0 * y.digest(), 0);
            due("27 the same again", x.digest(), x.digest());
        }
    }

    public static void main(String[] args) {
        plansWhat();
        plansEmptyAndFull();
        bestAtOneNumber();
        isPlanParts();
        isPlanEmpty();
        isPlanWays();
        isPlanTrees();
        isPlanPairings();
        isPlanLoadsAndHeaps();
        bestAtBounds();
        bestAtTop();
        bestAtNoPlan();
        bestOfKinds();
        waysOutOfOrder();
        bestAtLikeOnes();
        bestAtFraction();
        piecesNoPlan();
        asFewAsCanBe();
        likeLines();
        pieceBounds();
        pieceNoPlan();
        changeBounds();
        changeFractions();
        highestWhat();
        highestLikeOnes();
        highestEnds();
        spanPlans();
        spanNone();
        spanEnds();
        toleranceBounds();
        toleranceNoPlan();
        toleranceWithoutEnd();
        toleranceAtMost();
        ratioRefused();
        ratioOfPlans();
        ratioLikeOnes();
        rueEdges();
        grownEdges();
        grownEachPiece();
        paceEdges();
        partEdges();
        countEdges();
        digestAtFirst();
        digestFull();
        askedFirst();
        fewerThanAhead();
        digestChangesNothing();
        EDGES.check.end();
    }
}
