/** What the tests of edges share: objects to ask, and calls that must be taken or refused. */
final class Edges {
    static final int BAD = -2, NO = -3, FULL = -4;
    static final int WAYS = 0, TREES = 1, PAIRINGS = 2, LOADS = 3, HEAPS = 4;

    interface Maker {
        PriceRise make();
    }

    interface Call {
        long on(PriceRise x);
    }

    /** A call with one number that is tried at its bounds. */
    interface Tried {
        long on(PriceRise x, int v);
    }

    /** The least and the greatest number that is taken. */
    record Range(int low, int high) {
        int[] outside() {
            return new int[] {low - 1, high + 1, Integer.MIN_VALUE, Integer.MAX_VALUE};
        }
    }

    final Check check = new Check();

    /** Something in every row and numbers unlike those at first, so that whatever a call changes shows in the digest. */
    static PriceRise rich(int kind) {
        PriceRise x = new PriceRise();
        x.top(90);
        x.room(33);
        x.link(0, 5, 2, 1);
        x.link(0, 5, 12, -1);
        x.link(0, 1, 1, 1);
        x.link(1, 2, 0, 0);
        x.link(2, 3, 0, 0);
        x.link(3, 4, 0, 0);
        fillOtherRows(x);
        x.bestAt(1, 3);
        x.kind(kind);
        return x;
    }

    /** Like rich, but its net has no way and no tree. */
    static PriceRise planless(int kind) {
        PriceRise x = new PriceRise();
        x.top(90);
        x.room(33);
        x.link(0, 1, 2, 1);
        x.link(5, 1, 12, -1);
        fillOtherRows(x);
        x.kind(LOADS);
        x.bestAt(1, 3);
        x.kind(kind);
        return x;
    }

    private static void fillOtherRows(PriceRise x) {
        x.pair(0, 0, 3, 1);
        x.pair(1, 1, -4, 2);
        x.pair(3, 3, 5, -2);
        x.thing(20, 10, 0);
        x.thing(13, 0, 1);
        x.thing(1, -5, 1);
        x.block(-10, 1);
        x.block(5, 0);
        x.needs(1, 0, true);
    }

    /** As many links, things and blocks as there may be. */
    static PriceRise full(int kind) {
        PriceRise x = rich(kind);
        for (int i = x.count(0); i < 14; i++) x.link(4, 5, i, 1);
        for (int i = x.count(1); i < 8; i++) x.thing(i, i, 1);
        for (int i = x.count(2); i < 8; i++) x.block(i, 1);
        return x;
    }

    /** Nothing but THE KIND is unlike a new object. */
    static PriceRise bare(int kind) {
        PriceRise x = new PriceRise();
        x.kind(kind);
        return x;
    }

    /** Three ways side by side, that give way to one another at 2 and at 10. */
    static PriceRise threeWays() {
        PriceRise x = new PriceRise();
        x.link(0, 5, 4, 12);
        x.link(0, 5, 12, 8);
        x.link(0, 5, 62, 3);
        return x;
    }

    void due(String sentence, long got, long want) {
        check.due(sentence, got, want);
    }

    /** The answer is 1 and THE FRACTION is then as told. */
    void tells(String sentence, PriceRise x, Call call, long above, long below) {
        plan(sentence, x, call, 1, above, below);
    }

    void plan(String sentence, PriceRise x, Call call, long want, long above, long below) {
        check.due(sentence, call.on(x), want);
        check.fraction(sentence, x, above, below);
    }

    /** All is as it was behind the call, what other calls answer as well as what the digest tells. */
    void leavesAll(String sentence, PriceRise x, Call call, long want) {
        long ahead = answers(x);
        long was = x.digest();
        check.due(sentence, call.on(x), want);
        check.due(sentence + ": digest behind it", x.digest(), was);
        check.due(sentence + ": answers behind it", answers(x), ahead);
    }

    /** What was asked ahead of a change must not be answered again behind it. */
    void looksAgain(String sentence, Maker maker, Call change) {
        PriceRise asked = maker.make(), unasked = maker.make();
        long ahead = answers(asked);
        check.due(sentence + ": alike", change.on(asked), change.on(unasked));
        long behind = answers(asked);
        check.due(sentence + ": is looked at", behind == ahead ? 0 : 1, 1);
        check.due(sentence + ": is looked at again", behind, answers(unasked));
    }

    // Of the calls that leave THE FRACTION alone.
    private static long answers(PriceRise x) {
        long h = 7;
        for (int what = 0; what < 2; what++) h = 31 * h + x.plans(what);
        int n = x.pieces();
        h = 31 * h + n;
        for (int i = 0; i < n; i++) for (int what = 0; what < 3; what++) h = 31 * h + x.piece(i, what);
        return 31 * (31 * h + x.grown()) + x.pace();
    }

    /** The bounds are taken with the same answer, and the numbers next to them are refused. */
    void bounds(String sentence, Maker maker, Range range, Tried call, long want, long refusal) {
        for (int v : new int[] {range.low, range.high}) {
            check.due(sentence + ": " + v, call.on(maker.make(), v), want);
        }
        outside(sentence, maker, range, call, refusal);
    }

    void outside(String sentence, Maker maker, Range range, Tried call, long refusal) {
        for (int v : range.outside()) {
            leavesAll(sentence + ": " + v, maker.make(), x -> call.on(x, v), refusal);
        }
    }

    /** Bounds of a number that is held: the digest goes by it evenly, from the least to the greatest. */
    void heldBounds(String sentence, Maker maker, Range range, Tried call, long want) {
        bounds(sentence, maker, range, call, want, BAD);
        long atLow = digestBehind(maker, call, range.low);
        long step = digestBehind(maker, call, range.low + 1) - atLow;
        check.due(sentence + ": is held", step == 0 ? 0 : 1, 1);
        check.due(sentence + ": is held as told", digestBehind(maker, call, range.high) - atLow,
            (range.high - range.low) * step);
    }

    private static long digestBehind(Maker maker, Tried call, int v) {
        PriceRise x = maker.make();
        call.on(x, v);
        return x.digest();
    }
}
