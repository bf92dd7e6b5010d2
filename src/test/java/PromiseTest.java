/** Each promise of the document on its own: what is usual, the edges that it names, and wrong numbers. */
public final class PromiseTest {
    private static final Check CHECK = new Check();
    private static final int[] OUTSIDE = {Integer.MIN_VALUE, Integer.MIN_VALUE + 1, Integer.MAX_VALUE};

    private static void due(String call, long got, long want) {
        CHECK.due(call, got, want);
    }

    private static PriceRise of(int kind) {
        PriceRise x = new PriceRise();
        x.kind(kind);
        return x;
    }

    /** Three ways side by side, that give way to one another at 2 and at 10. */
    private static PriceRise threeWays() {
        PriceRise x = new PriceRise();
        x.link(0, 5, 4, 12);
        x.link(0, 5, 12, 8);
        x.link(0, 5, 62, 3);
        return x;
    }

    private static void promise1() {
        PriceRise x = new PriceRise();
        due("1 count(0)", x.count(0), 0);
        due("1 count(1)", x.count(1), 0);
        due("1 count(2)", x.count(2), 0);
        due("1 count(3)", x.count(3), 0);
        CHECK.fraction("1 fraction", x, 0, 1);
        due("1 top", x.top(100), 100);
        due("1 room", x.room(20), 20);
        due("1 kind", x.kind(2), 0);
        due("1 pairs are all there", x.count(3), 16);
        due("1 pairs are 0", x.bestAt(100, 1), 0x1248);
        CHECK.fraction("1 pairs are 0", x, 0, 1);
    }

    private static void promise2() {
        PriceRise x = threeWays();
        due("2 top(0)", x.top(0), PriceRise.BAD);
        due("2 top(101)", x.top(101), PriceRise.BAD);
        for (int t : OUTSIDE) due("2 top outside", x.top(t), PriceRise.BAD);
        due("2 pieces to 100", x.pieces(), 3);
        due("2 top(10)", x.top(10), 100);
        due("2 crossing at TOP is no change", x.pieces(), 2);
        due("2 top(11)", x.top(11), 10);
        due("2 pieces to 11", x.pieces(), 3);
        due("2 top(1)", x.top(1), 11);
        due("2 pieces to 1", x.pieces(), 1);
        due("2 top(100)", x.top(100), 1);
    }

    private static void promise3() {
        PriceRise x = new PriceRise();
        due("3 kind(5)", x.kind(5), PriceRise.BAD);
        due("3 kind(-1)", x.kind(-1), PriceRise.BAD);
        for (int k : OUTSIDE) due("3 kind outside", x.kind(k), PriceRise.BAD);
        for (int k = 0; k < 5; k++) {
            due("3 kind", x.kind(k), Math.max(0, k - 1));
            due("3 plans of the kind", x.plans(0), new int[] {0, 0, 24, 1, 1}[k]);
        }
        due("3 kind again", x.kind(4), 4);
    }

    private static void promise4() {
        PriceRise x = new PriceRise();
        due("4 from -1", x.link(-1, 5, 0, 0), PriceRise.BAD);
        due("4 from 6", x.link(6, 5, 0, 0), PriceRise.BAD);
        due("4 to -1", x.link(0, -1, 0, 0), PriceRise.BAD);
        due("4 to 6", x.link(0, 6, 0, 0), PriceRise.BAD);
        due("4 alike", x.link(3, 3, 0, 0), PriceRise.BAD);
        due("4 a", x.link(0, 5, 101, 0), PriceRise.BAD);
        due("4 a", x.link(0, 5, -101, 0), PriceRise.BAD);
        due("4 b", x.link(0, 5, 0, 101), PriceRise.BAD);
        due("4 b", x.link(0, 5, 0, -101), PriceRise.BAD);
        for (int v : OUTSIDE) {
            due("4 outside", x.link(v, 5, 0, 0), PriceRise.BAD);
            due("4 outside", x.link(0, v, 0, 0), PriceRise.BAD);
            due("4 outside", x.link(0, 5, v, 0), PriceRise.BAD);
            due("4 outside", x.link(0, 5, 0, v), PriceRise.BAD);
        }
        due("4 refused changes nothing", x.count(0), 0);
        for (int i = 0; i < 14; i++) due("4 link", x.link(0, 5, i % 2 == 0 ? 100 : -100, i % 2 == 0 ? -100 : 100), i);
        due("4 full", x.link(0, 5, 0, 0), PriceRise.FULL);
        due("4 BAD ahead of FULL", x.link(0, 0, 0, 0), PriceRise.BAD);
        due("4 count", x.count(0), 14);
        due("4 links side by side are ways of their own", x.plans(0), 14);
    }

    private static void promise5() {
        PriceRise x = of(2);
        due("5 one", x.pair(4, 0, 0, 0), PriceRise.BAD);
        due("5 one", x.pair(-1, 0, 0, 0), PriceRise.BAD);
        due("5 other", x.pair(0, 4, 0, 0), PriceRise.BAD);
        due("5 other", x.pair(0, -1, 0, 0), PriceRise.BAD);
        due("5 a", x.pair(0, 0, 101, 0), PriceRise.BAD);
        due("5 a", x.pair(0, 0, -101, 0), PriceRise.BAD);
        due("5 b", x.pair(0, 0, 0, 101), PriceRise.BAD);
        due("5 b", x.pair(0, 0, 0, -101), PriceRise.BAD);
        for (int v : OUTSIDE) due("5 outside", x.pair(v, v, v, v), PriceRise.BAD);
        due("5 pair", x.pair(1, 3, -7, 2), 1);
        due("5 its number is 4 i + j", x.bestAt(0, 1) >> 7 & 1, 1);
        CHECK.fraction("5 sum", x, -7, 1);
        due("5 alike", x.pair(0, 0, 100, -100), 1);
        due("5 again", x.pair(0, 0, 0, 0), 1);
        due("5 of any kind", x.kind(4), 2);
        due("5 of any kind", x.pair(0, 0, -100, 100), 1);
    }

    private static void promise6() {
        PriceRise x = of(3);
        due("6 weight", x.thing(0, 0, 0), PriceRise.BAD);
        due("6 weight", x.thing(51, 0, 0), PriceRise.BAD);
        due("6 a", x.thing(1, 101, 0), PriceRise.BAD);
        due("6 a", x.thing(1, -101, 0), PriceRise.BAD);
        due("6 b", x.thing(1, 0, 101), PriceRise.BAD);
        due("6 b", x.thing(1, 0, -101), PriceRise.BAD);
        for (int v : OUTSIDE) due("6 outside", x.thing(v, 0, 0), PriceRise.BAD);
        for (int i = 0; i < 8; i++) due("6 thing", x.thing(i == 0 ? 50 : 1, 100, -100), i);
        due("6 full", x.thing(1, 0, 0), PriceRise.FULL);
        due("6 BAD ahead of FULL", x.thing(0, 0, 0), PriceRise.BAD);
        due("6 count", x.count(1), 8);
        due("6 too heavy for 20", x.plans(0), 128);
    }

    private static void promise7() {
        PriceRise x = of(3);
        x.thing(20, 1, 0);
        x.thing(21, 1, 0);
        due("7 as heavy as ROOM", x.plans(0), 2);
        due("7 room", x.room(-1), PriceRise.BAD);
        due("7 room", x.room(201), PriceRise.BAD);
        for (int v : OUTSIDE) due("7 outside", x.room(v), PriceRise.BAD);
        due("7 room(40)", x.room(40), 20);
        due("7 plans", x.plans(0), 3);
        due("7 room(41)", x.room(41), 40);
        due("7 plans", x.plans(0), 4);
        due("7 room(0)", x.room(0), 41);
        due("7 plans", x.plans(0), 1);
        due("7 room(200)", x.room(200), 0);
    }

    private static void promise8() {
        PriceRise x = of(4);
        due("8 a", x.block(101, 0), PriceRise.BAD);
        due("8 a", x.block(-101, 0), PriceRise.BAD);
        due("8 b", x.block(0, 101), PriceRise.BAD);
        due("8 b", x.block(0, -101), PriceRise.BAD);
        for (int v : OUTSIDE) due("8 outside", x.block(v, 0), PriceRise.BAD);
        for (int i = 0; i < 8; i++) due("8 block", x.block(-100, 100), i);
        due("8 full", x.block(0, 0), PriceRise.FULL);
        due("8 BAD ahead of FULL", x.block(0, 101), PriceRise.BAD);
        due("8 needs nothing", x.plans(0), 256);
    }

    private static void promise9() {
        PriceRise x = of(4);
        due("9 no blocks", x.needs(0, 1, true), PriceRise.BAD);
        for (int i = 0; i < 3; i++) x.block(1, 1);
        due("9 not there", x.needs(0, 3, true), PriceRise.BAD);
        due("9 not there", x.needs(3, 0, true), PriceRise.BAD);
        due("9 below 0", x.needs(-1, 0, true), PriceRise.BAD);
        due("9 below 0", x.needs(0, -1, true), PriceRise.BAD);
        due("9 alike", x.needs(1, 1, false), PriceRise.BAD);
        for (int v : OUTSIDE) due("9 outside", x.needs(v, 0, true), PriceRise.BAD);
        due("9 is so", x.needs(0, 1, false), PriceRise.NO);
        due("9 needs", x.needs(0, 1, true), 1);
        due("9 is so", x.needs(0, 1, true), PriceRise.NO);
        due("9 plans", x.plans(0), 6);
        due("9 needs", x.needs(1, 2, true), 1);
        due("9 of those that are needed, too", x.plans(0), 4);
        due("9 round about", x.needs(2, 0, true), 1);
        due("9 round about", x.plans(0), 2);
        due("9 no more", x.needs(1, 2, false), 1);
        due("9 no more", x.plans(0), 4);
        x.clear();
        for (int i = 0; i < 3; i++) x.block(1, 1);
        due("9 new blocks need nothing", x.plans(0), 8);
        due("9 new blocks need nothing", x.needs(0, 1, false), PriceRise.NO);
    }

    private static void promise10() {
        PriceRise x = threeWays();
        due("10 part", x.put(3, 0, 0), PriceRise.BAD);
        due("10 part", x.put(-1, 0, 0), PriceRise.BAD);
        due("10 a", x.put(0, 101, 0), PriceRise.BAD);
        due("10 b", x.put(0, 0, -101), PriceRise.BAD);
        for (int v : OUTSIDE) due("10 outside", x.put(v, 0, 0), PriceRise.BAD);
        due("10 nothing changed", x.piece(0, 1), 4);
        due("10 put", x.put(2, 1, 1), 1);
        due("10 the new line", x.piece(0, 1), 1);
        due("10 the same line", x.put(2, 1, 1), 1);
        due("10 no things", x.kind(3), 0);
        due("10 no things", x.put(0, 1, 1), PriceRise.BAD);
        x.thing(20, 5, 0);
        x.thing(20, 1, 0);
        due("10 best", x.bestAt(0, 1), 1);
        due("10 put", x.put(1, 6, 0), 1);
        due("10 best", x.bestAt(0, 1), 2);
        due("10 the weight stays", x.plans(0), 3);
        x.kind(4);
        x.block(1, 0);
        due("10 put", x.put(0, -1, 0), 1);
        due("10 best", x.bestAt(0, 1), 0);
        x.kind(2);
        due("10 put", x.put(15, -1, 0), 1);
        due("10 put", x.put(16, -1, 0), PriceRise.BAD);
        due("10 best", x.bestAt(0, 1) >> 15 & 1, 1);
    }

    private static void promise11() {
        PriceRise x = threeWays();
        x.thing(1, 1, 1);
        x.block(1, 1);
        x.block(1, 1);
        x.needs(0, 1, true);
        x.pair(0, 0, 5, 5);
        x.bestAt(1, 1);
        x.kind(1);
        due("11 the same links", x.clear(), 3);
        due("11 links", x.count(0), 0);
        due("11 none", x.clear(), 0);
        due("11 things stay", x.count(1), 1);
        due("11 blocks stay", x.count(2), 2);
        CHECK.fraction("11 the fraction stays", x, 16, 1);
        due("11 pairs", x.kind(2), 1);
        due("11 pairs", x.clear(), 16);
        due("11 pairs", x.count(3), 16);
        due("11 pairs", x.bestAt(1, 1), 0x1248);
        x.kind(3);
        due("11 things", x.clear(), 1);
        due("11 things", x.plans(0), 1);
        due("11 the room stays", x.room(7), 20);
        x.kind(4);
        due("11 blocks", x.clear(), 2);
        due("11 blocks", x.count(2), 0);
        due("11 a new first link", x.link(1, 2, 3, 4), 0);
        PriceRise seen = threeWays();
        due("11 plans ahead", seen.pieces(), 3);
        due("11 seen", seen.clear(), 3);
        due("11 no plans", seen.plans(0), 0);
        due("11 no pieces", seen.pieces(), PriceRise.NO);
        due("11 a new first block", x.block(1, 2), 0);
    }

    private static void promise12() {
        PriceRise x = new PriceRise();
        due("12 what", x.plans(-1), PriceRise.BAD);
        due("12 what", x.plans(2), PriceRise.BAD);
        due("12 none", x.plans(0), 0);
        due("12 none is best nowhere", x.plans(1), 0);
        x = threeWays();
        due("12 plans", x.plans(0), 3);
        due("12 nowhere", x.plans(1), 0);
        x.link(0, 5, 100, 100);
        due("12 nowhere", x.plans(1), 1);
        x.put(3, 12, 8);
        due("12 a like line is best where the other is", x.plans(1), 0);
        x.put(3, 8, 10);
        due("12 best at the change alone", x.plans(1), 0);
        x.top(1);
        due("12 beyond TOP", x.plans(1), 3);
        x.top(2);
        due("12 at TOP alone", x.plans(1), 1);
        x.put(3, 4, 100);
        due("12 at 0 alone", x.plans(1), 1);
        x = of(1);
        for (int i = 0; i < 5; i++) for (int j = i + 1; j < 6; j++) x.link(i, j, i, j);
        due("12 trees of all links but the last", x.plans(0), 864);
    }

    private static void promise13() {
        PriceRise x = new PriceRise();
        due("13 none of no links", x.isPlan(0), 0);
        due("13 not there", x.isPlan(1), PriceRise.BAD);
        x.link(0, 1, 0, 0);
        x.link(1, 5, 0, 0);
        x.link(5, 0, 0, 0);
        x.link(1, 0, 0, 0);
        x.link(5, 2, 0, 0);
        due("13 way", x.isPlan(3), 1);
        due("13 half", x.isPlan(1), 0);
        due("13 against the links", x.isPlan(4), 0);
        due("13 with more", x.isPlan(7), 0);
        due("13 round", x.isPlan(11), 0);
        due("13 beyond the end", x.isPlan(19), 0);
        due("13 not there", x.isPlan(32), PriceRise.BAD);
        due("13 not there", x.isPlan(35), PriceRise.BAD);
        for (int v : OUTSIDE) due("13 outside", x.isPlan(v), PriceRise.BAD);
        due("13 below 0", x.isPlan(-1), PriceRise.BAD);
        x.kind(1);
        x.link(3, 2, 0, 0);
        x.link(4, 3, 0, 0);
        due("13 tree whichever way", x.isPlan(1 | 2 | 16 | 32 | 64), 1);
        due("13 tree whichever way", x.isPlan(2 | 8 | 16 | 32 | 64), 1);
        due("13 round of two", x.isPlan(1 | 8 | 16 | 32 | 64), 0);
        due("13 one too many", x.isPlan(127), 0);
        due("13 apart", x.isPlan(1 | 2 | 4 | 16 | 32), 0);
        x.kind(2);
        due("13 pairing", x.isPlan(0x8421), 1);
        due("13 three", x.isPlan(0x8420), 0);
        due("13 one twice", x.isPlan(0x8423), 0);
        due("13 other twice", x.isPlan(0x8411), 0);
        due("13 not there", x.isPlan(0x10000), PriceRise.BAD);
        x.kind(3);
        due("13 empty load", x.isPlan(0), 1);
        x.thing(20, 0, 0);
        x.thing(1, 0, 0);
        due("13 load", x.isPlan(1), 1);
        due("13 load", x.isPlan(3), 0);
        x.kind(4);
        due("13 empty heap", x.isPlan(0), 1);
        due("13 not there", x.isPlan(1), PriceRise.BAD);
    }

    private static void promise14() {
        PriceRise x = new PriceRise();
        due("14 BAD ahead of NO", x.bestAt(-1, 1), PriceRise.BAD);
        due("14 none", x.bestAt(0, 1), PriceRise.NO);
        x = threeWays();
        due("14 p", x.bestAt(-1, 1), PriceRise.BAD);
        due("14 q", x.bestAt(0, 0), PriceRise.BAD);
        due("14 q", x.bestAt(0, -1), PriceRise.BAD);
        due("14 q", x.bestAt(0, 1001), PriceRise.BAD);
        due("14 beyond TOP", x.bestAt(101, 1), PriceRise.BAD);
        due("14 beyond TOP", x.bestAt(100001, 1000), PriceRise.BAD);
        for (int v : OUTSIDE) due("14 outside", x.bestAt(v, 1), PriceRise.BAD);
        for (int v : OUTSIDE) due("14 outside", x.bestAt(0, v), PriceRise.BAD);
        CHECK.fraction("14 refused", x, 0, 1);
        due("14 at 0", x.bestAt(0, 7), 1);
        CHECK.fraction("14 at 0", x, 4, 1);
        due("14 at TOP", x.bestAt(100000, 1000), 4);
        CHECK.fraction("14 at TOP", x, 362, 1);
        due("14 of like ones the least", x.bestAt(2, 1), 1);
        due("14 just behind", x.bestAt(2001, 1000), 2);
        CHECK.fraction("14 just behind", x, 28008 / 8, 1000 / 8);
        due("14 lowest terms", x.bestAt(2, 4), 1);
        CHECK.fraction("14 lowest terms", x, 10, 1);
        x = of(4);
        x.block(-1, 0);
        x.block(1, -3);
        due("14 greatest", x.bestAt(1, 4), 2);
        CHECK.fraction("14 greatest", x, 1, 4);
        due("14 greatest", x.bestAt(1, 3), 0);
        CHECK.fraction("14 like the empty one", x, 0, 1);
        x = of(2);
        x.pair(0, 3, -7, 1);
        due("14 below 0", x.bestAt(1, 3), 0x1248);
        CHECK.fraction("14 below 0", x, -20, 3);
    }

    private static void promise15() {
        PriceRise x = new PriceRise();
        due("15 none", x.pieces(), PriceRise.NO);
        x = threeWays();
        due("15 pieces", x.pieces(), 3);
        x.put(1, 4, 11);
        due("15 best at 0 alone is no piece", x.pieces(), 2);
        due("15 the one behind 0", x.piece(0, 0), 2);
        x = threeWays();
        x.link(0, 5, 8, 10);
        due("15 best at a change alone is no piece", x.pieces(), 3);
        x = of(3);
        due("15 the empty load", x.pieces(), 1);
        x.thing(1, -5, 1);
        due("15 greatest", x.pieces(), 2);
        x = of(2);
        due("15 all alike", x.pieces(), 1);
    }

    private static void promise16() {
        PriceRise x = new PriceRise();
        due("16 none", x.piece(0, 0), -200000);
        due("16 none", x.piece(5, 2), -200000);
        due("16 BAD ahead of NO", x.piece(0, 3), -100000);
        due("16 BAD ahead of NO", x.piece(-1, 0), -100000);
        x = threeWays();
        x.link(0, 5, 62, 3);
        int[][] want = {{1, 4, 12}, {2, 12, 8}, {4, 62, 3}};
        for (int i = 0; i < 3; i++) {
            for (int what = 0; what < 3; what++) due("16 piece", x.piece(i, what), want[i][what]);
        }
        due("16 i", x.piece(3, 0), -100000);
        due("16 i", x.piece(-1, 0), -100000);
        due("16 what", x.piece(0, -1), -100000);
        due("16 what", x.piece(0, 3), -100000);
        for (int v : OUTSIDE) due("16 outside", x.piece(v, 0), -100000);
        for (int v : OUTSIDE) due("16 outside", x.piece(0, v), -100000);
        x = of(3);
        x.thing(1, 7, -2);
        due("16 greatest", x.piece(0, 0), 1);
        due("16 greatest", x.piece(0, 1), 7);
        due("16 greatest", x.piece(0, 2), -2);
        due("16 greatest", x.piece(1, 0), 0);
    }

    private static void promise17() {
        PriceRise x = new PriceRise();
        due("17 none", x.change(0), PriceRise.NO);
        due("17 BAD ahead of NO", x.change(-1), PriceRise.BAD);
        x = threeWays();
        x.put(2, 60, 5);
        due("17 change", x.change(1), 1);
        CHECK.fraction("17 change", x, 16, 1);
        due("17 change", x.change(0), 1);
        CHECK.fraction("17 change", x, 2, 1);
        due("17 i", x.change(2), PriceRise.BAD);
        due("17 i", x.change(-1), PriceRise.BAD);
        for (int v : OUTSIDE) due("17 outside", x.change(v), PriceRise.BAD);
        CHECK.fraction("17 refused", x, 2, 1);
        x.put(2, 60, 2);
        due("17 change", x.change(1), 1);
        CHECK.fraction("17 change", x, 8, 1);
        x.put(2, 15, 1);
        due("17 lowest terms", x.change(0), 1);
        CHECK.fraction("17 lowest terms", x, 1, 1);
        x.put(0, 10, 9);
        due("17 fraction", x.change(0), 1);
        CHECK.fraction("17 fraction", x, 5, 8);
    }

    private static void promise18() {
        PriceRise x = new PriceRise();
        due("18 none", x.highest(0), PriceRise.NO);
        due("18 BAD ahead of NO", x.highest(2), PriceRise.BAD);
        x.link(0, 5, 0, 4);
        x.link(0, 5, 7, 0);
        x.link(0, 5, 30, -1);
        due("18 what", x.highest(-1), PriceRise.BAD);
        due("18 what", x.highest(2), PriceRise.BAD);
        due("18 the least of like ones", x.highest(0), 1);
        CHECK.fraction("18 the least of like ones", x, 7, 4);
        due("18 how much", x.highest(1), 1);
        CHECK.fraction("18 how much", x, 7, 1);
        x.put(1, 100, 0);
        due("18 at the change", x.highest(0), 1);
        CHECK.fraction("18 at the change", x, 6, 1);
        due("18 how much", x.highest(1), 1);
        CHECK.fraction("18 how much", x, 24, 1);
        x.top(5);
        due("18 at TOP", x.highest(0), 1);
        CHECK.fraction("18 at TOP", x, 5, 1);
        x.put(0, -3, -4);
        due("18 at 0", x.highest(0), 1);
        CHECK.fraction("18 at 0", x, 0, 1);
        due("18 below 0", x.highest(1), 1);
        CHECK.fraction("18 below 0", x, -3, 1);
        x = of(3);
        x.thing(1, 30, -1);
        due("18 greatest", x.highest(0), 1);
        CHECK.fraction("18 greatest", x, 0, 1);
        due("18 greatest", x.highest(1), 1);
        CHECK.fraction("18 greatest", x, 30, 1);
        x.thing(20, 0, 1);
        x.top(30);
        due("18 as high at both ends", x.highest(0), 1);
        CHECK.fraction("18 as high at both ends", x, 0, 1);
    }

    private static void promise19() {
        PriceRise x = new PriceRise();
        due("19 no plan", x.span(0, 0), PriceRise.BAD);
        x = threeWays();
        x.link(0, 5, 8, 10);
        x.link(0, 5, 100, 100);
        x.link(0, 5, 12, 8);
        due("19 from", x.span(2, 0), 1);
        CHECK.fraction("19 from", x, 2, 1);
        due("19 to", x.span(2, 1), 1);
        CHECK.fraction("19 to", x, 10, 1);
        due("19 a like line", x.span(32, 1), 1);
        CHECK.fraction("19 a like line", x, 10, 1);
        due("19 to TOP", x.span(4, 1), 1);
        CHECK.fraction("19 to TOP", x, 100, 1);
        due("19 a point", x.span(8, 0), 1);
        CHECK.fraction("19 a point", x, 2, 1);
        due("19 a point", x.span(8, 1), 1);
        CHECK.fraction("19 a point", x, 2, 1);
        due("19 none", x.span(16, 0), 0);
        due("19 none", x.span(16, 1), 0);
        CHECK.fraction("19 none", x, 2, 1);
        due("19 what", x.span(2, -1), PriceRise.BAD);
        due("19 what", x.span(2, 2), PriceRise.BAD);
        due("19 no plan", x.span(3, 0), PriceRise.BAD);
        due("19 no plan", x.span(64, 0), PriceRise.BAD);
        due("19 no plan", x.span(-1, 0), PriceRise.BAD);
        for (int v : OUTSIDE) due("19 outside", x.span(v, 0), PriceRise.BAD);
        x.top(2);
        due("19 at TOP alone", x.span(2, 0), 1);
        CHECK.fraction("19 at TOP alone", x, 2, 1);
        x = of(4);
        x.block(0, -1);
        due("19 at 0 alone", x.span(1, 1), 1);
        CHECK.fraction("19 at 0 alone", x, 0, 1);
    }

    private static void promise20() {
        PriceRise x = new PriceRise();
        due("20 no part", x.tolerance(0, 0, 0), PriceRise.BAD);
        x.link(0, 1, 0, 0);
        due("20 none", x.tolerance(0, 0, 0), PriceRise.NO);
        due("20 BAD ahead of NO", x.tolerance(0, 101, 0), PriceRise.BAD);
        x = threeWays();
        due("20 part", x.tolerance(3, 0, 0), PriceRise.BAD);
        due("20 part", x.tolerance(-1, 0, 0), PriceRise.BAD);
        due("20 t", x.tolerance(0, -1, 0), PriceRise.BAD);
        due("20 t", x.tolerance(0, 101, 0), PriceRise.BAD);
        due("20 up", x.tolerance(0, 0, -1), PriceRise.BAD);
        due("20 up", x.tolerance(0, 0, 2), PriceRise.BAD);
        for (int v : OUTSIDE) due("20 outside", x.tolerance(v, v, v), PriceRise.BAD);
        due("20 in the best, more", x.tolerance(0, 0, 1), 1);
        CHECK.fraction("20 in the best, more", x, 8, 1);
        due("20 in the best, less", x.tolerance(0, 0, 0), 0);
        due("20 another, more", x.tolerance(2, 0, 1), 0);
        CHECK.fraction("20 without end", x, 8, 1);
        due("20 another, less", x.tolerance(2, 0, 0), 1);
        CHECK.fraction("20 another, less", x, 58, 1);
        due("20 alike", x.tolerance(1, 2, 0), 1);
        CHECK.fraction("20 alike", x, 0, 1);
        x = of(1);
        for (int i = 0; i < 5; i++) x.link(i, i + 1, 1, 1);
        due("20 in all plans", x.tolerance(2, 100, 1), 0);
        x.link(0, 1, 5, 1);
        due("20 in all plans", x.tolerance(2, 100, 1), 0);
        due("20 in one", x.tolerance(0, 100, 1), 1);
        CHECK.fraction("20 in one", x, 4, 1);
        x = new PriceRise();
        x.link(0, 5, 1, 1);
        x.link(1, 2, 1, 1);
        due("20 in no plan", x.tolerance(1, 0, 0), 0);
        due("20 in no plan", x.tolerance(1, 0, 1), 0);
        x = of(3);
        x.thing(20, 9, 1);
        x.thing(20, 5, 0);
        due("20 worth, less", x.tolerance(0, 3, 0), 1);
        CHECK.fraction("20 worth, less", x, 7, 1);
        due("20 worth, more", x.tolerance(0, 3, 1), 0);
        due("20 another's worth, more", x.tolerance(1, 100, 1), 1);
        CHECK.fraction("20 another's worth, more", x, 104, 1);
        due("20 another's worth, less", x.tolerance(1, 100, 0), 0);
    }

    private static void promise21() {
        PriceRise x = new PriceRise();
        due("21 none", x.ratio(), PriceRise.NO);
        x = threeWays();
        due("21 ratio", x.ratio(), 1);
        CHECK.fraction("21 ratio", x, 1, 3);
        x.link(0, 5, 2, 6);
        due("21 of like ones the least", x.ratio(), 1);
        x.put(3, -3, 2);
        due("21 below 0", x.ratio(), 8);
        CHECK.fraction("21 below 0", x, -3, 2);
        x.put(2, 0, 0);
        due("21 a b of 0", x.ratio(), PriceRise.NO);
        x.put(2, 0, -1);
        due("21 a b below 0", x.ratio(), PriceRise.NO);
        CHECK.fraction("21 refused", x, -3, 2);
        x.put(2, 0, 1);
        x.link(1, 2, 0, -5);
        due("21 a part of no plan", x.ratio(), 8);
        x.kind(2);
        due("21 pairings at 0", x.ratio(), PriceRise.NO);
        for (int i = 0; i < 16; i++) x.put(i, i % 5 == 0 ? 1 : 9, 1);
        due("21 pairings", x.ratio(), 0x8421);
        CHECK.fraction("21 pairings", x, 1, 1);
        x.kind(1);
        due("21 no trees", x.ratio(), PriceRise.NO);
        x.kind(3);
        x.thing(1, 1, 1);
        due("21 loads", x.ratio(), PriceRise.NO);
        x.kind(4);
        x.block(1, 1);
        due("21 heaps", x.ratio(), PriceRise.NO);
        PriceRise tree = of(1);
        for (int i = 0; i < 5; i++) tree.link(i, i + 1, 7, i == 0 ? -3 : 3);
        due("21 trees", tree.ratio(), 31);
        CHECK.fraction("21 trees", tree, 35, 9);
    }

    private static void promise22() {
        PriceRise x = new PriceRise();
        due("22 none", x.rue(), PriceRise.NO);
        x = threeWays();
        x.top(10);
        due("22 rue", x.rue(), 2);
        CHECK.fraction("22 rue", x, 8, 1);
        x.link(0, 5, 12, 8);
        due("22 of like ones the least", x.rue(), 2);
        x.top(100);
        due("22 rue", x.rue(), 4);
        CHECK.fraction("22 rue", x, 58, 1);
        x = of(3);
        x.thing(20, 10, 0);
        x.thing(20, 0, 1);
        x.top(16);
        due("22 greatest", x.rue(), 1);
        CHECK.fraction("22 greatest", x, 6, 1);
        x.top(20);
        due("22 as much to rue", x.rue(), 1);
        CHECK.fraction("22 as much to rue", x, 10, 1);
        x.top(21);
        due("22 greatest", x.rue(), 2);
        CHECK.fraction("22 greatest", x, 10, 1);
        x = of(4);
        due("22 nothing to rue", x.rue(), 0);
        CHECK.fraction("22 nothing to rue", x, 0, 1);
    }

    private static void promise23() {
        PriceRise x = new PriceRise();
        for (int k = 0; k < 4; k++) {
            x.kind(k);
            due("23 not heaps", x.grown(), PriceRise.NO);
        }
        x.kind(4);
        due("23 the empty heap", x.grown(), 1);
        x.block(-5, 1);
        due("23 grows", x.grown(), 1);
        x.block(9, -1);
        due("23 one goes", x.grown(), 0);
        x.top(5);
        due("23 one goes beyond TOP", x.grown(), 1);
        x.top(100);
        x.put(1, 9, 0);
        due("23 grows", x.grown(), 1);
    }

    private static void promise24() {
        PriceRise x = new PriceRise();
        due("24 none", x.pace(), PriceRise.NO);
        x = threeWays();
        due("24 pace", x.pace(), 2);
        x.top(2);
        due("24 the like one of the least number", x.pace(), 0);
        x.link(0, 5, 8, 10);
        due("24 a like one of a greater number", x.pace(), 0);
        x = new PriceRise();
        x.link(0, 5, 4, 8);
        x.link(0, 5, 0, 10);
        x.top(2);
        due("24 at TOP", x.pace(), 1);
        x.link(0, 1, 0, 0);
        x.link(1, 5, 2, 9);
        x.top(100);
        due("24 at the like ones", x.pace(), 1);
        x.put(0, 1, 0);
        x.put(1, 0, 4);
        x.put(3, 100, 100);
        due("24 two pieces, one step", x.pace(), 1);
    }

    private static void promise25() {
        PriceRise x = threeWays();
        due("25 above", x.part(0), 0);
        due("25 below", x.part(1), 1);
        x.bestAt(1, 3);
        x.put(0, 3, 1);
        x.bestAt(1, 3);
        due("25 above", x.part(0), 10);
        due("25 below", x.part(1), 3);
        due("25 what", x.part(2), -1000000000000L);
        due("25 what", x.part(-1), -1000000000000L);
        for (int v : OUTSIDE) due("25 outside", x.part(v), -1000000000000L);
    }

    private static void promise26() {
        PriceRise x = threeWays();
        x.thing(1, 1, 1);
        x.thing(1, 1, 1);
        x.block(1, 1);
        due("26 links", x.count(0), 3);
        due("26 things", x.count(1), 2);
        due("26 blocks", x.count(2), 1);
        int[] parts = {3, 3, 16, 2, 1};
        for (int k = 0; k < 5; k++) {
            x.kind(k);
            due("26 parts", x.count(3), parts[k]);
        }
        due("26 what", x.count(-1), PriceRise.BAD);
        due("26 what", x.count(4), PriceRise.BAD);
        for (int v : OUTSIDE) due("26 outside", x.count(v), PriceRise.BAD);
    }

    private static long mixed(long... row) {
        long h = 443;
        for (long v : row) h = 31 * h + v;
        return h;
    }

    private static void promise27() {
        PriceRise x = new PriceRise();
        long[] fresh = new long[6 + 32 + 1 + 2];
        fresh[0] = 100;
        fresh[38] = 20;
        fresh[40] = 1;
        due("27 a new one", x.digest(), mixed(fresh));
        x.top(9);
        x.kind(4);
        x.link(0, 5, 3, -4);
        x.pair(0, 1, 5, 6);
        x.thing(7, 8, 9);
        x.room(33);
        x.block(-1, 2);
        x.block(-3, 4);
        x.needs(0, 1, true);
        due("27 best", x.bestAt(7, 8), 3);
        due("27 all", x.digest(), mixed(9, 4, 1, 1, 2, 2, 0, 5, 3, -4,
            0, 0, 5, 6, 0, 0, 0, 0, 0, 0, 0, 0, 0, 0, 0, 0, 0, 0, 0, 0, 0, 0, 0, 0, 0, 0, 0, 0, 0, 0, 0, 0,
            7, 8, 9, 33, -1, 2, 2, -3, 4, 0, 5, 4));
        long was = x.digest();
        x.needs(0, 1, true);
        x.top(0);
        x.kind(9);
        x.plans(1);
        x.isPlan(1);
        x.pieces();
        x.grown();
        x.pace();
        x.piece(0, 0);
        due("27 these change nothing", x.digest(), was);
        x.needs(0, 1, false);
        due("27 needs no more", x.digest(), was - 2 * 31L * 31 * 31 * 31 * 31);
    }

    public static void main(String[] args) {
        promise1();
        promise2();
        promise3();
        promise4();
        promise5();
        promise6();
        promise7();
        promise8();
        promise9();
        promise10();
        promise11();
        promise12();
        promise13();
        promise14();
        promise15();
        promise16();
        promise17();
        promise18();
        promise19();
        promise20();
        promise21();
        promise22();
        promise23();
        promise24();
        promise25();
        promise26();
        promise27();
        CHECK.end();
    }
}
