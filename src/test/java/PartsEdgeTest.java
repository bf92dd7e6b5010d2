/** Promises 1 to 11: each sentence of the document that names an edge of the parts, on its own. */
public final class PartsEdgeTest {
    private static final int BAD = Edges.BAD, NO = Edges.NO, FULL = Edges.FULL;
    private static final int WAYS = Edges.WAYS, TREES = Edges.TREES, PAIRINGS = Edges.PAIRINGS, LOADS = Edges.LOADS,
        HEAPS = Edges.HEAPS;
    private static final Edges.Range LINE = new Edges.Range(-100, 100);
    private static final Edges EDGES = new Edges();

    private static void due(String sentence, long got, long want) {
        EDGES.due(sentence, got, want);
    }

    private static void refused(String sentence, PriceRise x, Edges.Call call, long refusal) {
        EDGES.leavesAll(sentence, x, call, refusal);
    }

    private static void leavesAll(String sentence, PriceRise x, Edges.Call call, long want) {
        EDGES.leavesAll(sentence, x, call, want);
    }

    // ---- Promise 1

    private static void atFirst() {
        due("1 TOP: 100 at first", new PriceRise().top(1), 100);
        due("1 THE KIND: 0 WAYS (at first)", new PriceRise().kind(4), 0);
        due("1 ROOM: 20 at first", new PriceRise().room(0), 20);
        EDGES.check.fraction("1 THE FRACTION is 0 by 1 at first", new PriceRise(), 0, 1);
        due("1 no LINKS", new PriceRise().count(0), 0);
        due("1 no THINGS", new PriceRise().count(1), 0);
        due("1 no BLOCKS", new PriceRise().count(2), 0);
        int[] parts = {0, 0, 16, 0, 0};
        int[] plans = {0, 0, 24, 1, 1};
        for (int kind = 0; kind < 5; kind++) {
            due("1 PARTS at first, KIND " + kind, Edges.bare(kind).count(3), parts[kind]);
            due("1 PLANS at first, KIND " + kind, Edges.bare(kind).plans(0), plans[kind]);
        }
    }

    private static void pairsAtFirst() {
        PriceRise x = Edges.bare(PAIRINGS);
        due("1 LINES of pairs (0 at first): nowhere", x.plans(1), 0);
        EDGES.plan("1 LINES of pairs (0 at first)", x, y -> y.bestAt(100, 1), 0x1248, 0, 1);
        due("1 LINES of pairs (0 at first): a", x.piece(0, 1), 0);
        due("1 LINES of pairs (0 at first): b", x.piece(0, 2), 0);
    }

    private static void objectsApart() {
        PriceRise other = new PriceRise();
        long was = other.digest();
        Edges.full(HEAPS);
        due("1 an object knows nothing of another", other.digest(), was);
    }

    // ---- Promises 2, 3

    private static void topBounds() {
        EDGES.heldBounds("2 TOP (1 .. 100)", () -> Edges.rich(WAYS), new Edges.Range(1, 100), (x, v) -> x.top(v), 90);
        PriceRise x = Edges.rich(WAYS);
        due("2 what it was", x.top(1), 90);
        due("2 what it was", x.top(100), 1);
        due("2 the same again", x.top(100), 100);
        x.top(0);
        due("2 refused: TOP is as it was", x.top(101), BAD);
        due("2 refused: TOP is as it was", x.top(7), 100);
    }

    private static void topIsLooked() {
        PriceRise x = Edges.threeWays();
        due("2 three pieces to 100", x.pieces(), 3);
        x.top(1);
        due("2 one piece to 1", x.pieces(), 1);
        x.top(100);
        due("2 three pieces again", x.pieces(), 3);
    }

    private static void kindBounds() {
        EDGES.bounds("3 THE KIND (0 .. 4)", () -> Edges.rich(PAIRINGS), new Edges.Range(0, 4), (x, v) -> x.kind(v), 2, BAD);
        PriceRise x = Edges.rich(WAYS);
        for (int kind = 0; kind < 5; kind++) due("3 what it was", x.kind(kind), Math.max(0, kind - 1));
        due("3 the same again", x.kind(4), 4);
        int[] plans = {2, 2, 24, 7, 3};
        for (int kind = 0; kind < 5; kind++) {
            x.kind(kind);
            due("3 the plans are those of KIND " + kind, x.plans(0), plans[kind]);
        }
    }

    // ---- Promise 4

    private static void linkBounds() {
        Edges.Maker maker = () -> Edges.rich(HEAPS);
        Edges.Range point = new Edges.Range(0, 5);
        EDGES.heldBounds("4 from one of 6 POINTS", maker, point, (x, v) -> x.link(v, 3, 1, 1), 6);
        EDGES.heldBounds("4 to one of 6 POINTS", maker, point, (x, v) -> x.link(3, v, 1, 1), 6);
        EDGES.heldBounds("4 a (-100 .. 100)", maker, LINE, (x, v) -> x.link(0, 5, v, 1), 6);
        EDGES.heldBounds("4 b (-100 .. 100)", maker, LINE, (x, v) -> x.link(0, 5, 1, v), 6);
        for (int p = 0; p < 6; p++) {
            int same = p;
            refused("4 between unlike POINTS", Edges.rich(WAYS), x -> x.link(same, same, 0, 0), BAD);
        }
    }

    private static void linksAsTheyCome() {
        for (int kind = 0; kind < 5; kind++) {
            PriceRise x = Edges.bare(kind);
            for (int i = 0; i < 14; i++) due("4 LINKS, as they come", x.link(0, 5, i, i), i);
            due("4 up to 14 LINKS", x.count(0), 14);
            refused("4 FULL: 14", x, y -> y.link(0, 5, 0, 0), FULL);
            refused("4 FULL: 14, again", x, y -> y.link(5, 0, -100, 100), FULL);
            due("4 FULL leaves 14", x.count(0), 14);
        }
    }

    private static void likeLinks() {
        PriceRise x = new PriceRise();
        for (int i = 0; i < 14; i++) x.link(0, 5, 7, 7);
        due("4 alike LINKS are PARTS of their own", x.plans(0), 14);
    }

    private static void linkBadAheadOfFull() {
        int[][] bad = {{-1, 5, 0, 0}, {6, 5, 0, 0}, {0, -1, 0, 0}, {0, 6, 0, 0}, {2, 2, 0, 0}, {0, 5, -101, 0},
            {0, 5, 101, 0}, {0, 5, 0, -101}, {0, 5, 0, 101}};
        for (int[] v : bad) {
            refused("4 BAD ahead of FULL", Edges.full(WAYS), x -> x.link(v[0], v[1], v[2], v[3]), BAD);
        }
    }

    private static void linkBehindClear() {
        PriceRise x = Edges.full(WAYS);
        x.clear();
        due("4 not FULL behind clear", x.link(0, 5, 1, 2), 0);
        due("4 and looked at", x.piece(0, 2), 2);
    }

    // ---- Promise 5

    private static void pairBounds() {
        Edges.Maker maker = () -> Edges.rich(WAYS);
        Edges.Range side = new Edges.Range(0, 3);
        EDGES.bounds("5 4 ONES", maker, side, (x, v) -> x.pair(v, 2, 1, 1), 1, BAD);
        EDGES.bounds("5 4 OTHERS", maker, side, (x, v) -> x.pair(2, v, 1, 1), 1, BAD);
        EDGES.heldBounds("5 a (-100 .. 100)", maker, LINE, (x, v) -> x.pair(3, 0, v, 1), 1);
        EDGES.heldBounds("5 b (-100 .. 100)", maker, LINE, (x, v) -> x.pair(0, 3, 1, v), 1);
    }

    private static void pairNumbers() {
        for (int i = 0; i < 4; i++) {
            for (int j = 0; j < 4; j++) {
                PriceRise told = Edges.bare(PAIRINGS), put = Edges.bare(PAIRINGS);
                told.pair(i, j, -7, 3);
                put.put(4 * i + j, -7, 3);
                due("5 pair of ONE i and OTHER j is number 4 i + j", told.digest(), put.digest());
                due("5 it is in the best", told.bestAt(0, 1) >> 4 * i + j & 1, 1);
                EDGES.check.fraction("5 its LINE", told, -7, 1);
            }
        }
    }

    private static void pairAgain() {
        PriceRise x = Edges.rich(HEAPS);
        due("5 of any KIND", x.pair(0, 0, 9, 9), 1);
        leavesAll("5 the LINE that it has already", x, y -> y.pair(0, 0, 9, 9), 1);
        due("5 no more PARTS of HEAPS for it", x.count(3), 2);
    }

    // ---- Promises 6, 7

    private static void thingBounds() {
        Edges.Maker maker = () -> Edges.rich(TREES);
        EDGES.heldBounds("6 weight (1 .. 50)", maker, new Edges.Range(1, 50), (x, v) -> x.thing(v, 1, 1), 3);
        EDGES.heldBounds("6 a (-100 .. 100)", maker, LINE, (x, v) -> x.thing(1, v, 1), 3);
        EDGES.heldBounds("6 b (-100 .. 100)", maker, LINE, (x, v) -> x.thing(1, 1, v), 3);
    }

    private static void thingsAsTheyCome() {
        for (int kind = 0; kind < 5; kind++) {
            PriceRise x = Edges.bare(kind);
            for (int i = 0; i < 8; i++) due("6 THINGS, as they come", x.thing(50 - i, i, i), i);
            due("6 up to 8 THINGS", x.count(1), 8);
            refused("6 FULL: 8", x, y -> y.thing(1, 0, 0), FULL);
            refused("6 FULL: 8, again", x, y -> y.thing(50, 100, -100), FULL);
        }
        int[][] bad = {{0, 0, 0}, {51, 0, 0}, {1, -101, 0}, {1, 101, 0}, {1, 0, -101}, {1, 0, 101}};
        for (int[] v : bad) refused("6 BAD ahead of FULL", Edges.full(LOADS), x -> x.thing(v[0], v[1], v[2]), BAD);
        PriceRise x = Edges.full(LOADS);
        x.clear();
        due("6 not FULL behind clear", x.thing(50, 1, 2), 0);
        due("6 the weight is the new one", x.plans(0), 1);
    }

    private static void roomBounds() {
        Edges.Maker maker = () -> Edges.rich(PAIRINGS);
        EDGES.heldBounds("7 ROOM (0 .. 200)", maker, new Edges.Range(0, 200), (x, v) -> x.room(v), 33);
        PriceRise x = Edges.rich(LOADS);
        due("7 what it was", x.room(0), 33);
        due("7 what it was", x.room(200), 0);
        due("7 the same again", x.room(200), 200);
    }

    private static void atMost() {
        PriceRise x = Edges.bare(LOADS);
        for (int i = 0; i < 4; i++) x.thing(50, 1, 0);
        x.room(200);
        due("7 THINGS that weigh ROOM together at most: as much", x.isPlan(15), 1);
        x.room(199);
        due("7 THINGS that weigh ROOM together at most: one more", x.isPlan(15), 0);
        due("7 but three of them", x.plans(0), 15);
        x.room(50);
        due("7 but one of them", x.plans(0), 5);
        x.room(49);
        due("7 but none of them", x.plans(0), 1);
        x.room(0);
        due("7 ROOM 0: the empty one", x.isPlan(0), 1);
    }

    private static void leastWeight() {
        PriceRise x = Edges.bare(LOADS);
        x.thing(1, 5, 0);
        x.room(0);
        due("7 weight 1 in ROOM 0", x.isPlan(1), 0);
        x.room(1);
        due("7 weight 1 in ROOM 1", x.isPlan(1), 1);
    }

    // ---- Promises 8, 9

    private static void blockBounds() {
        Edges.Maker maker = () -> Edges.rich(LOADS);
        EDGES.heldBounds("8 a (-100 .. 100)", maker, LINE, (x, v) -> x.block(v, 1), 2);
        EDGES.heldBounds("8 b (-100 .. 100)", maker, LINE, (x, v) -> x.block(1, v), 2);
    }

    private static void blocksAsTheyCome() {
        for (int kind = 0; kind < 5; kind++) {
            PriceRise x = Edges.bare(kind);
            for (int i = 0; i < 8; i++) due("8 BLOCKS, as they come", x.block(i, -i), i);
            due("8 up to 8 BLOCKS", x.count(2), 8);
            refused("8 FULL: 8", x, y -> y.block(0, 0), FULL);
            refused("8 FULL: 8, again", x, y -> y.block(-100, 100), FULL);
        }
        int[][] bad = {{-101, 0}, {101, 0}, {0, -101}, {0, 101}};
        for (int[] v : bad) refused("8 BAD ahead of FULL", Edges.full(HEAPS), x -> x.block(v[0], v[1]), BAD);
        PriceRise x = Edges.full(HEAPS);
        x.clear();
        due("8 not FULL behind clear", x.block(1, 2), 0);
    }

    private static void needsBounds() {
        for (int n : new int[] {2, 8}) {
            Edges.Maker maker = () -> blocks(n, WAYS);
            Edges.Range there = new Edges.Range(0, n - 1);
            EDGES.outside("9 block is not there", maker, there, (x, v) -> x.needs(v, 1, true), BAD);
            EDGES.outside("9 other is not there", maker, there, (x, v) -> x.needs(1, v, true), BAD);
            due("9 the first needs the last", maker.make().needs(0, n - 1, true), 1);
            due("9 the last needs the first", maker.make().needs(n - 1, 0, true), 1);
        }
    }

    private static PriceRise blocks(int n, int kind) {
        PriceRise x = Edges.bare(kind);
        for (int i = 0; i < n; i++) x.block(i - 3, 1);
        return x;
    }

    private static void needsAlike() {
        for (int i = 0; i < 8; i++) {
            int same = i;
            refused("9 BAD: alike, too", blocks(8, HEAPS), x -> x.needs(same, same, true), BAD);
            refused("9 BAD: alike, ahead of NO: it is so", blocks(8, HEAPS), x -> x.needs(same, same, false), BAD);
        }
        refused("9 BAD: not there, ahead of NO: it is so", blocks(2, HEAPS), x -> x.needs(0, 2, false), BAD);
        refused("9 BAD: not there, ahead of NO: it is so", blocks(2, HEAPS), x -> x.needs(2, 0, false), BAD);
        refused("9 BAD: no BLOCKS at all", Edges.bare(HEAPS), x -> x.needs(0, 1, true), BAD);
        refused("9 BAD: one BLOCK alone", blocks(1, HEAPS), x -> x.needs(0, 1, true), BAD);
    }

    private static void needsIsSo() {
        PriceRise x = blocks(3, HEAPS);
        refused("9 NO: it is so: it needs it not", x, y -> y.needs(0, 1, false), NO);
        due("9 needs", x.needs(0, 1, true), 1);
        refused("9 NO: it is so: it needs it", x, y -> y.needs(0, 1, true), NO);
        refused("9 NO: the other way round is another one", x, y -> y.needs(1, 0, false), NO);
        due("9 or no more", x.needs(0, 1, false), 1);
        refused("9 NO: it is so, again", x, y -> y.needs(0, 1, false), NO);
    }

    private static void needsRoundAbout() {
        PriceRise x = blocks(8, HEAPS);
        for (int i = 0; i < 8; i++) due("9 round about too", x.needs(i, (i + 1) % 8, true), 1);
        due("9 round about: none or all", x.plans(0), 2);
        due("9 round about: none", x.isPlan(0), 1);
        due("9 round about: all", x.isPlan(255), 1);
        due("9 round about: all but one", x.isPlan(127), 0);
        x.needs(7, 0, false);
        due("9 a row", x.plans(0), 9);
        due("9 with all that these NEED: the last alone", x.isPlan(128), 1);
        due("9 with all that these NEED: the first with the next alone", x.isPlan(3), 0);
    }

    private static void needsOfAny() {
        PriceRise x = blocks(8, HEAPS);
        for (int i = 0; i < 8; i++) {
            for (int j = 0; j < 8; j++) if (i != j) due("9 may NEED others (any)", x.needs(i, j, true), 1);
        }
        due("9 each needs each: none or all", x.plans(0), 2);
        PriceRise fresh = blocks(8, HEAPS);
        x.clear();
        for (int i = 0; i < 8; i++) x.block(i - 3, 1);
        due("9 new BLOCKS need nothing of what the old ones needed", x.digest(), fresh.digest());
        due("9 new BLOCKS need nothing", x.plans(0), 256);
    }

    // ---- Promise 10

    private static void putBounds() {
        int[] parts = {6, 6, 16, 3, 2};
        for (int kind = 0; kind < 5; kind++) {
            int k = kind;
            Edges.Maker maker = () -> Edges.rich(k);
            EDGES.bounds("10 a PART of KIND " + k, maker, new Edges.Range(0, parts[k] - 1), (x, v) -> x.put(v, 9, 9), 1, BAD);
            EDGES.heldBounds("10 a (-100 .. 100) of KIND " + k, maker, LINE, (x, v) -> x.put(1, v, 1), 1);
            EDGES.heldBounds("10 b (-100 .. 100) of KIND " + k, maker, LINE, (x, v) -> x.put(1, 1, v), 1);
        }
    }

    private static void putInFull() {
        int[] parts = {14, 14, 16, 8, 8};
        for (int kind = 0; kind < 5; kind++) {
            int k = kind;
            EDGES.bounds("10 a PART, full, of KIND " + k, () -> Edges.full(k), new Edges.Range(0, parts[k] - 1),
                (x, v) -> x.put(v, 9, 9), 1, BAD);
        }
        for (int kind : new int[] {WAYS, TREES, LOADS, HEAPS}) {
            refused("10 BAD: no PARTS, KIND " + kind, Edges.bare(kind), x -> x.put(0, 0, 0), BAD);
            PriceRise x = Edges.full(kind);
            x.clear();
            refused("10 BAD: PARTS that went, KIND " + kind, x, y -> y.put(0, 0, 0), BAD);
        }
    }

    private static void putChangesTheLineAlone() {
        for (int kind = 0; kind < 5; kind++) {
            PriceRise x = Edges.rich(kind);
            long was = x.digest();
            int a = new int[] {12, 12, 0, 0, 5}[kind], b = new int[] {-1, -1, 0, 1, 0}[kind];
            leavesAll("10 the LINE that it has already", x, y -> y.put(1, a, b), 1);
            due("10 another LINE", x.put(1, 77, -77), 1);
            due("10 it shows", x.digest() == was ? 1 : 0, 0);
            x.put(1, a, b);
            due("10 nothing but the LINE was another", x.digest(), was);
        }
    }

    private static void putOfOneNet() {
        PriceRise x = Edges.rich(TREES);
        x.put(0, -50, 0);
        x.kind(WAYS);
        due("10 WAYS and TREES have the same LINKS", x.piece(0, 1), -50);
    }

    // ---- Promise 11

    private static void clearAnswers() {
        int[] rich = {6, 6, 16, 3, 2}, full = {14, 14, 16, 8, 8}, none = {0, 0, 16, 0, 0};
        for (int kind = 0; kind < 5; kind++) {
            due("11 how many PARTS there were", Edges.rich(kind).clear(), rich[kind]);
            due("11 how many PARTS there were, full", Edges.full(kind).clear(), full[kind]);
            leavesAll("11 clear of nothing changes nothing", Edges.bare(kind), x -> x.clear(), none[kind]);
            PriceRise twice = Edges.full(kind);
            twice.clear();
            leavesAll("11 a second time", twice, x -> x.clear(), none[kind]);
        }
    }

    /** What clear leaves is what an object has that never had those parts. */
    private static void clearLeaves() {
        for (int kind = 0; kind < 5; kind++) {
            PriceRise x = Edges.rich(kind);
            x.clear();
            due("11 LINKS, KIND " + kind, x.count(0), kind < 2 ? 0 : 6);
            due("11 THINGS, KIND " + kind, x.count(1), kind == LOADS ? 0 : 3);
            due("11 BLOCKS, KIND " + kind, x.count(2), kind == HEAPS ? 0 : 2);
            due("11 PARTS of it, KIND " + kind, x.count(3), kind == PAIRINGS ? 16 : 0);
            EDGES.check.fraction("11 THE FRACTION stays, KIND " + kind, x, 7, 3);
            due("11 all else stays, KIND " + kind, x.digest(), richWithout(kind));
            due("11 ROOM stays, KIND " + kind, x.room(1), 33);
            due("11 TOP stays, KIND " + kind, x.top(1), 90);
            due("11 THE KIND stays", x.kind(0), kind);
        }
    }

    private static long richWithout(int kind) {
        long[] links = {0, 5, 2, 1, 0, 5, 12, -1, 0, 1, 1, 1, 1, 2, 0, 0, 2, 3, 0, 0, 3, 4, 0, 0};
        long[] pairs = new long[32];
        pairs[0] = 3;
        pairs[1] = 1;
        pairs[10] = -4;
        pairs[11] = 2;
        pairs[30] = 5;
        pairs[31] = -2;
        long[] things = {20, 10, 0, 13, 0, 1, 1, -5, 1};
        long[] blocks = {-10, 1, 0, 5, 0, 1};
        long[] none = {};
        int l = kind < 2 ? 0 : 6, t = kind == LOADS ? 0 : 3, b = kind == HEAPS ? 0 : 2;
        long h = mix(443, 90, kind, l, t, b, kind == PAIRINGS ? 16 : 0);
        h = mix(h, kind < 2 ? none : links);
        h = mix(h, kind == PAIRINGS ? new long[32] : pairs);
        h = mix(mix(h, kind == LOADS ? none : things), 33);
        return mix(mix(h, kind == HEAPS ? none : blocks), 7, 3);
    }

    private static long mix(long start, long... row) {
        long h = start;
        for (long v : row) h = 31 * h + v;
        return h;
    }

    private static void clearOfPairings() {
        PriceRise x = Edges.bare(PAIRINGS);
        for (int i = 0; i < 16; i++) x.put(i, 100 - i, i - 100);
        x.clear();
        due("11 of PAIRINGS all LINES become 0", x.digest(), Edges.bare(PAIRINGS).digest());
        due("11 and all are there", x.plans(0), 24);
    }

    // ---- Promises 2 to 11

    private static void seenAhead() {
        for (int kind = 0; kind < 5; kind++) {
            int k = kind;
            Edges.Maker maker = () -> Edges.rich(k);
            EDGES.looksAgain("2 top, KIND " + k, maker, x -> x.top(1));
            EDGES.looksAgain("3 kind, KIND " + k, maker, x -> x.kind((k + 1) % 5));
            EDGES.looksAgain("10 put, KIND " + k, maker, x -> x.put(0, 99, -99));
            EDGES.looksAgain("11 clear, KIND " + k, maker, x -> x.clear());
        }
        EDGES.looksAgain("4 link of WAYS", () -> Edges.rich(WAYS), x -> x.link(0, 5, -100, 0));
        EDGES.looksAgain("4 link of TREES", () -> Edges.rich(TREES), x -> x.link(0, 5, -100, 0));
        EDGES.looksAgain("5 pair", () -> Edges.rich(PAIRINGS), x -> x.pair(2, 2, -100, 0));
        EDGES.looksAgain("6 thing", () -> Edges.rich(LOADS), x -> x.thing(1, 100, 0));
        EDGES.looksAgain("7 room", () -> Edges.rich(LOADS), x -> x.room(34));
        EDGES.looksAgain("8 block", () -> Edges.rich(HEAPS), x -> x.block(100, 0));
        EDGES.looksAgain("9 needs", () -> Edges.rich(HEAPS), x -> x.needs(0, 1, true));
        EDGES.looksAgain("9 needs no more", () -> Edges.rich(HEAPS), x -> x.needs(1, 0, false));
    }

    public static void main(String[] args) {
        atFirst();
        pairsAtFirst();
        objectsApart();
        topBounds();
        topIsLooked();
        kindBounds();
        linkBounds();
        linksAsTheyCome();
        likeLinks();
        linkBadAheadOfFull();
        linkBehindClear();
        pairBounds();
        pairNumbers();
        pairAgain();
        thingBounds();
        thingsAsTheyCome();
        roomBounds();
        atMost();
        leastWeight();
        blockBounds();
        blocksAsTheyCome();
        needsBounds();
        needsAlike();
        needsIsSo();
        needsRoundAbout();
        needsOfAny();
        putBounds();
        putInFull();
        putChangesTheLineAlone();
        putOfOneNet();
        clearAnswers();
        clearLeaves();
        clearOfPairings();
        seenAhead();
        EDGES.check.end();
    }
}
