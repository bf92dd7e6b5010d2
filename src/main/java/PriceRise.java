/**
 * As the price rises: plans whose costs all go by one number t, from 0 to TOP, and which of them is best where.
 * The document's words are kept for the names: parts, plans, lines, pieces, changes.
 */
public final class PriceRise {
    public static final int NONE = -1, BAD = -2, NO = -3, FULL = -4;

    private static final int BAD_PIECE = -100000;
    private static final int NO_PIECE = -200000;
    private static final long BAD_SIDE = -1000000000000L;

    private static final int MOST_TOP = 100;
    private static final int MOST_IN_LINE = 100;
    private static final int MOST_BELOW = 1000;
    private static final int MOST_WEIGHT = 50;
    private static final int MOST_ROOM = 200;
    private static final int POINTS = 6;
    private static final int GOAL = POINTS - 1;
    private static final int SIDE = 4;
    private static final int HEAPS = 4;
    private static final int LEAST = 1;
    private static final int GREATEST = -1;

    private final Links links = new Links();
    private final Parts pairs = new Parts(SIDE * SIDE);
    private final Loads loads = new Loads();
    private final Heaps heaps = new Heaps();
    private final Kind[] kinds = {new Ways(links), new Trees(links), new Pairings(pairs), loads, heaps};
    private final PlanList list = new PlanList();
    private final Pieces cut = new Pieces();
    private final Fraction fraction = new Fraction();
    private int end = MOST_TOP;
    private int kindNow = 0;
    private boolean listed = false;
    private boolean isCut = false;

    public PriceRise() {
    }

    public int top(int t) {
        if (t < 1 || t > MOST_TOP) return BAD;
        int was = end;
        end = t;
        isCut = false;
        return was;
    }

    public int kind(int k) {
        if (k < 0 || k >= kinds.length) return BAD;
        int was = kindNow;
        kindNow = k;
        forgetPlans();
        return was;
    }

    public int link(int from, int to, int a, int b) {
        if (!isBelow(from, POINTS) || !isBelow(to, POINTS) || from == to || !isLine(a, b)) return BAD;
        if (links.isFull()) return FULL;
        forgetPlans();
        return links.appendLink(from, to, a, b);
    }

    public int pair(int one, int other, int a, int b) {
        if (!isBelow(one, SIDE) || !isBelow(other, SIDE) || !isLine(a, b)) return BAD;
        pairs.setLine(SIDE * one + other, a, b);
        forgetPlans();
        return 1;
    }

    public int thing(int weight, int a, int b) {
        if (weight < 1 || weight > MOST_WEIGHT || !isLine(a, b)) return BAD;
        if (loads.parts.isFull()) return FULL;
        forgetPlans();
        return loads.appendThing(weight, a, b);
    }

    public int room(int v) {
        if (v < 0 || v > MOST_ROOM) return BAD;
        int was = loads.space;
        loads.space = v;
        forgetPlans();
        return was;
    }

    public int block(int a, int b) {
        if (!isLine(a, b)) return BAD;
        if (heaps.parts.isFull()) return FULL;
        forgetPlans();
        return heaps.appendBlock(a, b);
    }

    public int needs(int block, int other, boolean is) {
        if (!heaps.parts.has(block) || !heaps.parts.has(other) || block == other) return BAD;
        if (heaps.isNeeded(block, other) == is) return NO;
        heaps.turnNeed(block, other);
        forgetPlans();
        return 1;
    }

    public int put(int part, int a, int b) {
        if (!partsNow().has(part) || !isLine(a, b)) return BAD;
        partsNow().setLine(part, a, b);
        forgetPlans();
        return 1;
    }

    public int clear() {
        int were = partsNow().size;
        kinds[kindNow].dropParts();
        forgetPlans();
        return were;
    }

    public int plans(int what) {
        if (!isBelow(what, 2)) return BAD;
        findPlans();
        return what == 0 ? list.size : countNowhere();
    }

    public int isPlan(int parts) {
        if (parts < 0 || (parts & ~partsNow().all()) != 0) return BAD;
        findPlans();
        return list.indexOf(parts) == NONE ? 0 : 1;
    }

    public int bestAt(int p, int q) {
        if (p < 0 || q < 1 || q > MOST_BELOW || p > end * q) return BAD;
        findPlans();
        if (list.size == 0) return NO;
        int best = list.cheapestAt(p, q);
        fraction.become(list.sumAt(best, p, q), q);
        return list.bits[best];
    }

    public int pieces() {
        cutPieces();
        return cut.size == 0 ? NO : cut.size;
    }

    public int piece(int i, int what) {
        if (i < 0 || !isBelow(what, 3)) return BAD_PIECE;
        cutPieces();
        if (cut.size == 0) return NO_PIECE;
        if (i >= cut.size) return BAD_PIECE;
        int plan = cut.plan[i];
        if (what == 0) return list.bits[plan];
        return what == 1 ? list.a[plan] : list.b[plan];
    }

    public int change(int i) {
        if (i < 0) return BAD;
        cutPieces();
        if (cut.size == 0) return NO;
        if (i > cut.size - 2) return BAD;
        tellEnd(i + 1);
        return 1;
    }

    public int highest(int what) {
        if (!isBelow(what, 2)) return BAD;
        cutPieces();
        if (cut.size == 0) return NO;
        int at = cut.highestEnd(list);
        if (what == 0) tellEnd(at);
        else fraction.become(cut.bestSumAt(list, at), cut.below[at]);
        return 1;
    }

    public int span(int plan, int what) {
        if (!isBelow(what, 2)) return BAD;
        cutPieces();
        int index = list.indexOf(plan);
        if (index == NONE) return BAD;
        int at = what == 0 ? cut.firstEndOf(list, index) : cut.lastEndOf(list, index);
        if (at == NONE) return 0;
        tellEnd(at);
        return 1;
    }

    public int tolerance(int part, int t, int up) {
        if (!partsNow().has(part) || t < 0 || t > end || !isBelow(up, 2)) return BAD;
        findPlans();
        if (list.size == 0) return NO;
        long slack = list.slackOf(part, t, up == 1);
        if (slack == NONE) return 0;
        fraction.become(slack, 1);
        return 1;
    }

    public int ratio() {
        findPlans();
        if (list.sign == GREATEST || list.size == 0 || !list.allRise()) return NO;
        int best = list.leastRatio();
        fraction.become(list.a[best], list.b[best]);
        return list.bits[best];
    }

    public int rue() {
        findPlans();
        if (list.size == 0) return NO;
        int atStart = list.cheapestAt(0, 1);
        int atEnd = list.cheapestAt(end, 1);
        int best = list.leastRued(atStart, atEnd, end);
        fraction.become(list.greatestLoss(best, atStart, atEnd, end), 1);
        return list.bits[best];
    }

    public int grown() {
        if (kindNow != HEAPS) return NO;
        cutPieces();
        for (int i = 1; i < cut.size; i++) {
            int ahead = list.bits[cut.plan[i - 1]];
            if ((ahead & ~list.bits[cut.plan[i]]) != 0) return 0;
        }
        return 1;
    }

    public int pace() {
        findPlans();
        if (list.size == 0) return NO;
        int changed = 0;
        int ahead = list.cheapestAt(0, 1);
        for (int t = 1; t <= end; t++) {
            int best = list.cheapestAt(t, 1);
            if (best != ahead) changed++;
            ahead = best;
        }
        return changed;
    }

    public long part(int what) {
        if (!isBelow(what, 2)) return BAD_SIDE;
        return what == 0 ? fraction.above : fraction.below;
    }

    public int count(int what) {
        if (what == 0) return links.size;
        if (what == 1) return loads.parts.size;
        if (what == 2) return heaps.parts.size;
        return what == 3 ? partsNow().size : BAD;
    }

    public long digest() {
        long h = 443;
        h = mix(h, end);
        h = mix(h, kindNow);
        h = mix(h, links.size);
        h = mix(h, loads.parts.size);
        h = mix(h, heaps.parts.size);
        h = mix(h, partsNow().size);
        h = links.mixLinks(h);
        for (int i = 0; i < pairs.size; i++) h = pairs.mixLine(h, i);
        h = loads.mixThings(h);
        h = mix(h, loads.space);
        h = heaps.mixBlocks(h);
        h = mix(h, fraction.above);
        return mix(h, fraction.below);
    }

    private static boolean isBelow(int number, int limit) {
        return number >= 0 && number < limit;
    }

    private static boolean isLine(int a, int b) {
        return a >= -MOST_IN_LINE && a <= MOST_IN_LINE && b >= -MOST_IN_LINE && b <= MOST_IN_LINE;
    }

    private static boolean holds(int set, int part) {
        return (set >> part & 1) != 0;
    }

    private static long mix(long h, long v) {
        return 31 * h + v;
    }

    private Parts partsNow() {
        return kinds[kindNow].parts;
    }

    private void forgetPlans() {
        listed = false;
        isCut = false;
    }

    private void findPlans() {
        if (listed) return;
        list.restart(kinds[kindNow].sign);
        kinds[kindNow].listPlans(list);
        list.addUpLines(partsNow());
        listed = true;
    }

    private void cutPieces() {
        findPlans();
        if (isCut) return;
        cut.cutUp(list, end);
        isCut = true;
    }

    private int countNowhere() {
        cutPieces();
        int nowhere = 0;
        for (int i = 0; i < list.size; i++) {
            if (cut.firstEndOf(list, i) == NONE) nowhere++;
        }
        return nowhere;
    }

    private void tellEnd(int i) {
        fraction.become(cut.above[i], cut.below[i]);
    }

    /** The parts of a kind, each with its line a + b t. */
    private static class Parts {
        final int[] a;
        final int[] b;
        int size;

        Parts(int most) {
            a = new int[most];
            b = new int[most];
            size = 0;
        }

        boolean isFull() {
            return size >= a.length;
        }

        boolean has(int i) {
            return i >= 0 && i < size;
        }

        int all() {
            return (1 << size) - 1;
        }

        void setLine(int i, int newA, int newB) {
            if (i < 0 || i >= a.length) return;
            a[i] = newA;
            b[i] = newB;
        }

        int appendLine(int newA, int newB) {
            setLine(size, newA, newB);
            return size++;
        }

        long mixLine(long h, int i) {
            return mix(mix(h, a[i]), b[i]);
        }
    }

    /** The links of the net, which ways and trees share. */
    private static final class Links extends Parts {
        static final int MOST = 14;
        final int[] from = new int[MOST];
        final int[] to = new int[MOST];

        Links() {
            super(MOST);
        }

        int appendLink(int newFrom, int newTo, int newA, int newB) {
            if (isFull()) return FULL;
            from[size] = newFrom;
            to[size] = newTo;
            return appendLine(newA, newB);
        }

        long mixLinks(long h) {
            for (int i = 0; i < size; i++) {
                h = mixLine(mix(mix(h, from[i]), to[i]), i);
            }
            return h;
        }
    }

    /** A kind of plans: what its parts are, which sets of them are plans, and whether less or more is better. */
    private abstract static class Kind {
        final Parts parts;
        final int sign;

        Kind(Parts parts, int sign) {
            this.parts = parts;
            this.sign = sign;
        }

        abstract void listPlans(PlanList found);

        void dropParts() {
            parts.size = 0;
        }
    }

    private static final class Ways extends Kind {
        private final Links links;

        Ways(Links links) {
            super(links, LEAST);
            this.links = links;
        }

        void listPlans(PlanList found) {
            walk(0, 1, 0, found);
        }

        // Each step marks one point more as seen, so that no walk goes deeper than the points.
        private void walk(int point, int seen, int way, PlanList found) {
            for (int i = 0; i < links.size; i++) {
                int next = links.to[i];
                if (links.from[i] != point || holds(seen, next)) continue;
                int longer = way | 1 << i;
                if (next == GOAL) found.insert(longer);
                else walk(next, seen | 1 << next, longer, found);
            }
        }
    }

    private static final class Trees extends Kind {
        // Three bits a point: the group it hangs in, at first its own number.
        private static final int ALL_ALONE = 0543210;
        private final Links links;

        Trees(Links links) {
            super(links, LEAST);
            this.links = links;
        }

        void listPlans(PlanList found) {
            hang(links.size - 1, 0, ALL_ALONE, found);
        }

        // From the last link to the first, without a link ahead of with it: so the trees come in rising order.
        private void hang(int link, int tree, int groups, PlanList found) {
            int missing = POINTS - 1 - Integer.bitCount(tree);
            if (missing == 0) {
                found.insert(tree);
                return;
            }
            if (link < 0 || link >= links.size || link + 1 < missing) return;
            hang(link - 1, tree, groups, found);
            int one = groupOf(groups, links.from[link]);
            int other = groupOf(groups, links.to[link]);
            if (one != other) hang(link - 1, tree | 1 << link, unite(groups, one, other), found);
        }

        private static int groupOf(int groups, int point) {
            return groups >> 3 * point & 7;
        }

        private static int unite(int groups, int one, int other) {
            int united = groups;
            for (int point = 0; point < POINTS; point++) {
                if (groupOf(groups, point) == other) united ^= (one ^ other) << 3 * point;
            }
            return united;
        }
    }

    private static final class Pairings extends Kind {
        Pairings(Parts pairs) {
            super(pairs, LEAST);
            pairs.size = SIDE * SIDE;
        }

        void listPlans(PlanList found) {
            match(SIDE - 1, 0, 0, found);
        }

        // From the last one to the first: so the pairings come in rising order.
        private void match(int one, int taken, int pairing, PlanList found) {
            if (one < 0) {
                found.insert(pairing);
                return;
            }
            for (int other = 0; other < SIDE; other++) {
                if (holds(taken, other)) continue;
                match(one - 1, taken | 1 << other, pairing | 1 << SIDE * one + other, found);
            }
        }

        // All pairs are always there: only their lines go.
        void dropParts() {
            for (int i = 0; i < parts.size; i++) parts.setLine(i, 0, 0);
        }
    }

    private static final class Loads extends Kind {
        private static final int MOST = 8;
        private final int[] weight = new int[MOST];
        private int space = 20;

        Loads() {
            super(new Parts(MOST), GREATEST);
        }

        int appendThing(int newWeight, int a, int b) {
            if (parts.isFull()) return FULL;
            weight[parts.size] = newWeight;
            return parts.appendLine(a, b);
        }

        void listPlans(PlanList found) {
            for (int load = 0; load <= parts.all(); load++) {
                if (weightOf(load) <= space) found.insert(load);
            }
        }

        private int weightOf(int load) {
            int sum = 0;
            for (int i = 0; i < parts.size; i++) {
                if (holds(load, i)) sum += weight[i];
            }
            return sum;
        }

        long mixThings(long h) {
            for (int i = 0; i < parts.size; i++) h = parts.mixLine(mix(h, weight[i]), i);
            return h;
        }
    }

    private static final class Heaps extends Kind {
        private static final int MOST = 8;
        private final int[] needed = new int[MOST];

        Heaps() {
            super(new Parts(MOST), GREATEST);
        }

        int appendBlock(int a, int b) {
            if (parts.isFull()) return FULL;
            needed[parts.size] = 0;
            return parts.appendLine(a, b);
        }

        boolean isNeeded(int block, int other) {
            return holds(needed[block], other);
        }

        void turnNeed(int block, int other) {
            needed[block] ^= 1 << other;
        }

        void listPlans(PlanList found) {
            for (int heap = 0; heap <= parts.all(); heap++) {
                if (isClosed(heap)) found.insert(heap);
            }
        }

        private boolean isClosed(int heap) {
            for (int i = 0; i < parts.size; i++) {
                if (holds(heap, i) && (needed[i] & ~heap) != 0) return false;
            }
            return true;
        }

        long mixBlocks(long h) {
            for (int i = 0; i < parts.size; i++) h = mix(parts.mixLine(h, i), needed[i]);
            return h;
        }
    }

    /** All plans of a kind in rising order, so that of like ones the first is the one of the least number. */
    private static final class PlanList {
        // No way or tree holds another one, and none has more than 5 of the 14 links: 14 over 5 at most.
        private static final int MOST = 2002;
        private final int[] bits = new int[MOST];
        private final int[] a = new int[MOST];
        private final int[] b = new int[MOST];
        private int size = 0;
        private int sign = LEAST;

        void restart(int newSign) {
            size = 0;
            sign = newSign;
        }

        void insert(int set) {
            if (size >= MOST) return;
            int at = size;
            while (at > 0 && bits[at - 1] > set) {
                bits[at] = bits[at - 1];
                at--;
            }
            bits[at] = set;
            size++;
        }

        void addUpLines(Parts parts) {
            for (int i = 0; i < size; i++) {
                a[i] = 0;
                b[i] = 0;
                for (int part = 0; part < parts.size; part++) {
                    if (!holds(bits[i], part)) continue;
                    a[i] += parts.a[part];
                    b[i] += parts.b[part];
                }
            }
        }

        int indexOf(int set) {
            int low = 0;
            int high = size - 1;
            for (int step = 0; step < MOST && low <= high; step++) {
                int middle = (low + high) / 2;
                if (bits[middle] == set) return middle;
                if (bits[middle] < set) low = middle + 1;
                else high = middle - 1;
            }
            return NONE;
        }

        /** q times the sum at p by q, to stay whole. */
        long sumAt(int i, long p, long q) {
            return a[i] * q + b[i] * p;
        }

        /** The sum turned so that less is better in every kind. */
        long costAt(int i, long p, long q) {
            return sign * sumAt(i, p, q);
        }

        int cheapestAt(long p, long q) {
            int best = 0;
            long least = costAt(0, p, q);
            for (int i = 1; i < size; i++) {
                long cost = costAt(i, p, q);
                if (cost >= least) continue;
                best = i;
                least = cost;
            }
            return best;
        }

        /** How far the part's sum at t may go till the best plan there is best no more; NONE: without end. */
        long slackOf(int part, int t, boolean more) {
            int best = cheapestAt(t, 1);
            boolean inBest = holds(bits[best], part);
            boolean dearer = more == (sign == LEAST);
            // A part of the best that gets cheaper, or another one that gets dearer, only helps the best.
            if (inBest != dearer) return NONE;
            long slack = NONE;
            for (int i = 0; i < size; i++) {
                if (holds(bits[i], part) == inBest) continue;
                long behind = costAt(i, t, 1) - costAt(best, t, 1);
                if (slack == NONE || behind < slack) slack = behind;
            }
            return slack;
        }

        boolean allRise() {
            for (int i = 0; i < size; i++) {
                if (b[i] <= 0) return false;
            }
            return true;
        }

        int leastRatio() {
            int best = 0;
            for (int i = 1; i < size; i++) {
                if (a[i] * b[best] < a[best] * b[i]) best = i;
            }
            return best;
        }

        int leastRued(int atStart, int atEnd, int end) {
            int best = 0;
            long least = greatestLoss(0, atStart, atEnd, end);
            for (int i = 1; i < size; i++) {
                long loss = greatestLoss(i, atStart, atEnd, end);
                if (loss >= least) continue;
                best = i;
                least = loss;
            }
            return best;
        }

        // The loss bends only upwards as t rises, so that it is greatest at 0 or at the end.
        long greatestLoss(int i, int atStart, int atEnd, int end) {
            return Math.max(lossAgainst(atStart, i, 0), lossAgainst(atEnd, i, end));
        }

        private long lossAgainst(int best, int i, int t) {
            return costAt(i, t, 1) - costAt(best, t, 1);
        }
    }

    /**
     * The pieces: piece i goes from end i to end i + 1; the ends between are the changes.
     * The best bends at the ends alone, so that a plan that is best anywhere is best at an end.
     */
    private static final class Pieces {
        // The changes are unlike fractions whose above and below, added up over all of them, stay within
        // what the plans' a and b span (1000 each): 139 of the least such fractions have room, not 140.
        private static final int MOST = 140;
        private final int[] plan = new int[MOST];
        private final long[] above = new long[MOST + 1];
        private final long[] below = new long[MOST + 1];
        private int size = 0;

        void cutUp(PlanList list, int top) {
            size = 0;
            if (list.size == 0) return;
            setEnd(0, 0, 1);
            int next = firstPlan(list);
            while (next != NONE && size < MOST) {
                plan[size] = next;
                size++;
                next = nextPlan(list, next, top);
            }
            setEnd(size, top, 1);
        }

        private void setEnd(int i, long newAbove, long newBelow) {
            above[i] = newAbove;
            below[i] = newBelow;
        }

        // Of those that are best at 0 the one that stays best right behind it.
        private static int firstPlan(PlanList list) {
            int best = 0;
            for (int i = 1; i < list.size; i++) {
                int byStart = list.sign * (list.a[i] - list.a[best]);
                int bySlope = list.sign * (list.b[i] - list.b[best]);
                if (byStart < 0 || byStart == 0 && bySlope < 0) best = i;
            }
            return best;
        }

        /** The plan that is the first to cross the one that is best now, ahead of the top; sets the end there. */
        private int nextPlan(PlanList list, int now, int top) {
            int next = NONE;
            long nextGap = top;
            long nextGain = 1;
            for (int i = 0; i < list.size; i++) {
                long gain = list.sign * (list.b[now] - list.b[i]);
                if (gain <= 0) continue;
                long gap = list.sign * (list.a[i] - list.a[now]);
                long later = gap * nextGain - nextGap * gain;
                // Of those that cross at the same t the steepest alone stays best behind it.
                if (later > 0 || later == 0 && (next == NONE || gain <= nextGain)) continue;
                next = i;
                nextGap = gap;
                nextGain = gain;
            }
            if (next != NONE) setEnd(size, nextGap, nextGain);
            return next;
        }

        /** The best sum at end i, times what is below there. */
        long bestSumAt(PlanList list, int i) {
            int bestThere = plan[Math.max(0, Math.min(i, size - 1))];
            return list.sumAt(bestThere, above[i], below[i]);
        }

        int highestEnd(PlanList list) {
            int best = 0;
            for (int i = 1; i <= size; i++) {
                if (bestSumAt(list, i) * below[best] > bestSumAt(list, best) * below[i]) best = i;
            }
            return best;
        }

        int firstEndOf(PlanList list, int index) {
            for (int i = 0; i <= size; i++) {
                if (isBestAtEnd(list, index, i)) return i;
            }
            return NONE;
        }

        int lastEndOf(PlanList list, int index) {
            for (int i = size; i >= 0; i--) {
                if (isBestAtEnd(list, index, i)) return i;
            }
            return NONE;
        }

        private boolean isBestAtEnd(PlanList list, int index, int i) {
            return list.sumAt(index, above[i], below[i]) == bestSumAt(list, i);
        }
    }

    /** Lowest terms, below above 0. */
    private static final class Fraction {
        private static final int MOST_STEPS = 100;
        private long above = 0;
        private long below = 1;

        void become(long newAbove, long newBelow) {
            long shared = sharedMeasure(newAbove, newBelow);
            if (shared <= 0 || newBelow <= 0) return;
            above = newAbove / shared;
            below = newBelow / shared;
        }

        private static long sharedMeasure(long one, long other) {
            long big = Math.abs(one);
            long small = Math.abs(other);
            for (int i = 0; i < MOST_STEPS && small != 0; i++) {
                long rest = big % small;
                big = small;
                small = rest;
            }
            return big;
        }
    }
}
