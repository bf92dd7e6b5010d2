import java.util.ArrayList;
import java.util.List;

/**
 * The document by its plainest words, as slow as it may be: every set of parts is looked at, every pair of plans is
 * set against one another. It shares no way of reckoning with the class under test.
 */
final class Model {
    static final int BAD = -2, NO = -3, FULL = -4;

    record Part(int x, int y, int a, int b) { }

    /** above by below, below above 0, in any terms. */
    record Frac(long above, long below) implements Comparable<Frac> {
        @Override public int compareTo(Frac o) {
            return Long.compare(above * o.below, o.above * below);
        }

        Frac lowest() {
            long x = Math.abs(above), y = below;
            while (y != 0) {
                long r = x % y;
                x = y;
                y = r;
            }
            return new Frac(above / x, below / x);
        }
    }

    record Plan(int bits, int a, int b) {
        Frac at(Frac t) {
            return new Frac(a * t.below + b * t.above, t.below);
        }
    }

    record Piece(Plan plan, Frac from, Frac to) { }

    int top = 100, kind = 0, room = 20;
    final List<Part> links = new ArrayList<>(), pairs = new ArrayList<>(), things = new ArrayList<>(),
        blocks = new ArrayList<>();
    final boolean[][] need = new boolean[8][8];
    Frac fraction = new Frac(0, 1);
    private List<Plan> known = null;

    Model() {
        for (int i = 0; i < 16; i++) pairs.add(new Part(i / 4, i % 4, 0, 0));
    }

    private void changed() {
        known = null;
    }

    private List<Part> parts() {
        return kind < 2 ? links : kind == 2 ? pairs : kind == 3 ? things : blocks;
    }

    private static boolean within(int v, int low, int high) {
        return low <= v && v <= high;
    }

    private static boolean line(int a, int b) {
        return within(a, -100, 100) && within(b, -100, 100);
    }

    int top(int t) {
        if (!within(t, 1, 100)) return BAD;
        int was = top;
        top = t;
        return was;
    }

    int kind(int k) {
        if (!within(k, 0, 4)) return BAD;
        int was = kind;
        kind = k;
        changed();
        return was;
    }

    int link(int from, int to, int a, int b) {
        if (!within(from, 0, 5) || !within(to, 0, 5) || from == to || !line(a, b)) return BAD;
        if (links.size() == 14) return FULL;
        links.add(new Part(from, to, a, b));
        changed();
        return links.size() - 1;
    }

    int pair(int one, int other, int a, int b) {
        if (!within(one, 0, 3) || !within(other, 0, 3) || !line(a, b)) return BAD;
        pairs.set(4 * one + other, new Part(one, other, a, b));
        changed();
        return 1;
    }

    int thing(int weight, int a, int b) {
        if (!within(weight, 1, 50) || !line(a, b)) return BAD;
        if (things.size() == 8) return FULL;
        things.add(new Part(weight, 0, a, b));
        changed();
        return things.size() - 1;
    }

    int room(int v) {
        if (!within(v, 0, 200)) return BAD;
        int was = room;
        room = v;
        changed();
        return was;
    }

    int block(int a, int b) {
        if (!line(a, b)) return BAD;
        if (blocks.size() == 8) return FULL;
        blocks.add(new Part(0, 0, a, b));
        changed();
        return blocks.size() - 1;
    }

    int needs(int block, int other, boolean is) {
        int last = blocks.size() - 1;
        if (!within(block, 0, last) || !within(other, 0, last) || block == other) return BAD;
        if (need[block][other] == is) return NO;
        need[block][other] = is;
        changed();
        return 1;
    }

    int put(int part, int a, int b) {
        if (!within(part, 0, parts().size() - 1) || !line(a, b)) return BAD;
        Part was = parts().get(part);
        parts().set(part, new Part(was.x, was.y, a, b));
        changed();
        return 1;
    }

    int clear() {
        int were = parts().size();
        if (kind == 2) {
            for (int i = 0; i < 16; i++) put(i, 0, 0);
        } else {
            parts().clear();
        }
        if (kind == 4) for (boolean[] row : need) java.util.Arrays.fill(row, false);
        changed();
        return were;
    }

    private boolean fits(int set) {
        return switch (kind) {
            case 0 -> isWay(set);
            case 1 -> isTree(set);
            case 2 -> isPairing(set);
            case 3 -> isLoad(set);
            default -> isHeap(set);
        };
    }

    private boolean isWay(int set) {
        int at = 0, left = set, seen = 1;
        while (at != 5) {
            int step = -1;
            for (int i = 0; i < links.size(); i++) {
                if ((left >> i & 1) != 0 && links.get(i).x == at) step = i;
            }
            if (step < 0) return false;
            left &= ~(1 << step);
            at = links.get(step).y;
            if ((seen >> at & 1) != 0) return false;
            seen |= 1 << at;
        }
        return left == 0;
    }

    private boolean isTree(int set) {
        if (Integer.bitCount(set) != 5) return false;
        int reached = 1;
        for (int round = 0; round < 6; round++) {
            for (int i = 0; i < links.size(); i++) {
                if ((set >> i & 1) == 0) continue;
                int ends = 1 << links.get(i).x | 1 << links.get(i).y;
                if ((reached & ends) != 0) reached |= ends;
            }
        }
        return reached == 63;
    }

    private boolean isPairing(int set) {
        int ones = 0, others = 0;
        for (int i = 0; i < 16; i++) {
            if ((set >> i & 1) == 0) continue;
            ones |= 1 << i / 4;
            others |= 1 << i % 4;
        }
        return Integer.bitCount(set) == 4 && ones == 15 && others == 15;
    }

    private boolean isLoad(int set) {
        int weight = 0;
        for (int i = 0; i < things.size(); i++) weight += (set >> i & 1) * things.get(i).x;
        return weight <= room;
    }

    private boolean isHeap(int set) {
        for (int i = 0; i < blocks.size(); i++) {
            for (int j = 0; j < blocks.size(); j++) {
                if ((set >> i & 1) != 0 && need[i][j] && (set >> j & 1) == 0) return false;
            }
        }
        return true;
    }

    List<Plan> all() {
        if (known != null) return known;
        known = new ArrayList<>();
        for (int set = 0; set < 1 << parts().size(); set++) {
            if (!fits(set)) continue;
            int a = 0, b = 0;
            for (int i = 0; i < parts().size(); i++) {
                a += (set >> i & 1) * parts().get(i).a;
                b += (set >> i & 1) * parts().get(i).b;
            }
            known.add(new Plan(set, a, b));
        }
        return known;
    }

    /** Below 0: one is better than other at t. */
    private int compare(Plan one, Plan other, Frac t) {
        int c = one.at(t).compareTo(other.at(t));
        return kind < 3 ? c : -c;
    }

    private Plan best(Frac t) {
        Plan best = null;
        for (Plan p : all()) if (best == null || compare(p, best, t) < 0) best = p;
        return best;
    }

    /** All t at which a plan is best, cut out by each other plan on its own; null: none. */
    private Frac[] where(Plan plan) {
        int sign = kind < 3 ? 1 : -1;
        Frac from = new Frac(0, 1), to = new Frac(top, 1);
        for (Plan other : all()) {
            // The plan is not worse where da + db t <= 0.
            long da = sign * (plan.a - other.a), db = sign * (plan.b - other.b);
            if (db == 0 && da > 0) return null;
            if (db > 0 && new Frac(-da, db).compareTo(to) < 0) to = new Frac(-da, db);
            if (db < 0 && new Frac(da, -db).compareTo(from) > 0) from = new Frac(da, -db);
        }
        return from.compareTo(to) > 0 ? null : new Frac[] {from.lowest(), to.lowest()};
    }

    /** The plans that are best over a span longer than a point, of like lines the first, by where they begin. */
    List<Piece> cut() {
        List<Piece> found = new ArrayList<>();
        for (Plan p : all()) {
            Frac[] span = where(p);
            if (span == null || span[0].compareTo(span[1]) == 0) continue;
            boolean like = false;
            for (Piece q : found) like |= q.plan.a == p.a && q.plan.b == p.b;
            if (!like) found.add(new Piece(p, span[0], span[1]));
        }
        found.sort((x, y) -> x.from.compareTo(y.from));
        return found;
    }

    int plans(int what) {
        if (!within(what, 0, 1)) return BAD;
        if (what == 0) return all().size();
        int nowhere = 0;
        for (Plan p : all()) if (where(p) == null) nowhere++;
        return nowhere;
    }

    private Plan find(int bits) {
        for (Plan p : all()) if (p.bits == bits) return p;
        return null;
    }

    int isPlan(int set) {
        if (set < 0 || set >= 1 << parts().size()) return BAD;
        return find(set) == null ? 0 : 1;
    }

    int bestAt(int p, int q) {
        if (p < 0 || !within(q, 1, 1000) || (long) p > (long) top * q) return BAD;
        if (all().isEmpty()) return NO;
        Frac t = new Frac(p, q);
        Plan best = best(t);
        fraction = best.at(t).lowest();
        return best.bits;
    }

    int pieces() {
        return all().isEmpty() ? NO : cut().size();
    }

    int piece(int i, int what) {
        if (i < 0 || !within(what, 0, 2)) return -100000;
        if (all().isEmpty()) return -200000;
        List<Piece> cut = cut();
        if (i >= cut.size()) return -100000;
        Plan p = cut.get(i).plan;
        return what == 0 ? p.bits : what == 1 ? p.a : p.b;
    }

    int change(int i) {
        if (i < 0) return BAD;
        if (all().isEmpty()) return NO;
        List<Piece> cut = cut();
        if (i > cut.size() - 2) return BAD;
        fraction = cut.get(i).to;
        return 1;
    }

    int highest(int what) {
        if (!within(what, 0, 1)) return BAD;
        if (all().isEmpty()) return NO;
        Frac at = new Frac(0, 1), most = best(at).at(at);
        for (Piece p : cut()) {
            for (Frac t : new Frac[] {p.from, p.to}) {
                Frac sum = best(t).at(t);
                int c = sum.compareTo(most);
                if (c < 0 || c == 0 && t.compareTo(at) >= 0) continue;
                at = t;
                most = sum;
            }
        }
        fraction = (what == 0 ? at : most).lowest();
        return 1;
    }

    int span(int bits, int what) {
        if (!within(what, 0, 1)) return BAD;
        Plan p = find(bits);
        if (p == null) return BAD;
        Frac[] span = where(p);
        if (span == null) return 0;
        fraction = span[what];
        return 1;
    }

    /** Tries it: the part's line is put up or down by a whole number, and the plan is looked at again. */
    int tolerance(int part, int t, int up) {
        if (!within(part, 0, parts().size() - 1) || !within(t, 0, top) || !within(up, 0, 1)) return BAD;
        if (all().isEmpty()) return NO;
        Plan best = best(new Frac(t, 1));
        int far = 1_000_000;
        if (stays(best, part, t, up == 1 ? far : -far)) return 0;
        int low = 0, high = far;
        while (high - low > 1) {
            int middle = (low + high) / 2;
            if (stays(best, part, t, up == 1 ? middle : -middle)) low = middle;
            else high = middle;
        }
        fraction = new Frac(low, 1);
        return 1;
    }

    private boolean stays(Plan best, int part, int t, int more) {
        long mine = moved(best, part, t, more);
        for (Plan p : all()) {
            long its = moved(p, part, t, more);
            if (kind < 3 ? its < mine : its > mine) return false;
        }
        return true;
    }

    private static long moved(Plan p, int part, int t, int more) {
        return p.a + (long) p.b * t + (long) (p.bits >> part & 1) * more;
    }

    int ratio() {
        if (kind > 2 || all().isEmpty()) return NO;
        Plan best = null;
        for (Plan p : all()) {
            if (p.b <= 0) return NO;
            if (best == null || new Frac(p.a, p.b).compareTo(new Frac(best.a, best.b)) < 0) best = p;
        }
        fraction = new Frac(best.a, best.b).lowest();
        return best.bits;
    }

    int rue() {
        if (all().isEmpty()) return NO;
        List<Frac> ends = new ArrayList<>();
        for (Piece p : cut()) {
            ends.add(p.from);
            ends.add(p.to);
        }
        Plan least = null;
        Frac least0 = null;
        for (Plan p : all()) {
            Frac loss = new Frac(0, 1);
            for (Frac t : ends) {
                Frac mine = p.at(t), theirs = best(t).at(t);
                Frac here = new Frac(Math.abs(mine.above - theirs.above), t.below);
                if (here.compareTo(loss) > 0) loss = here;
            }
            if (least == null || loss.compareTo(least0) < 0) {
                least = p;
                least0 = loss;
            }
        }
        fraction = least0.lowest();
        return least.bits;
    }

    int grown() {
        if (kind != 4) return NO;
        int ahead = 0;
        for (Piece p : cut()) {
            if ((p.plan.bits | ahead) != p.plan.bits) return 0;
            ahead = p.plan.bits;
        }
        return 1;
    }

    int pace() {
        if (all().isEmpty()) return NO;
        int n = 0;
        for (int t = 1; t <= top; t++) {
            if (best(new Frac(t, 1)).bits != best(new Frac(t - 1, 1)).bits) n++;
        }
        return n;
    }

    long part(int what) {
        return what == 0 ? fraction.above : what == 1 ? fraction.below : -1000000000000L;
    }

    int count(int what) {
        return switch (what) {
            case 0 -> links.size();
            case 1 -> things.size();
            case 2 -> blocks.size();
            case 3 -> parts().size();
            default -> BAD;
        };
    }

    long digest() {
        List<Long> row = new ArrayList<>();
        row.add((long) top);
        row.add((long) kind);
        for (int i = 0; i < 4; i++) row.add((long) count(i));
        for (Part p : links) for (int v : new int[] {p.x, p.y, p.a, p.b}) row.add((long) v);
        for (Part p : pairs) for (int v : new int[] {p.a, p.b}) row.add((long) v);
        for (Part p : things) for (int v : new int[] {p.x, p.a, p.b}) row.add((long) v);
        row.add((long) room);
        for (int i = 0; i < blocks.size(); i++) {
            int bits = 0;
            for (int j = 0; j < 8; j++) if (need[i][j]) bits |= 1 << j;
            for (int v : new int[] {blocks.get(i).a, blocks.get(i).b, bits}) row.add((long) v);
        }
        row.add(fraction.above);
        row.add(fraction.below);
        long h = 443;
        for (long v : row) h = 31 * h + v;
        return h;
    }
}
