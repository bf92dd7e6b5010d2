import java.lang.management.ManagementFactory;
import java.util.Random;

/** The most that the document lets be: many plans, many pieces, all numbers; and that calls make no new objects. */
public final class LimitTest {
    private static final Check CHECK = new Check();

    private static PriceRise net(int kind, Random draw, int reach) {
        PriceRise x = new PriceRise();
        x.kind(kind);
        for (int i = 0; i < 5; i++) {
            for (int j = i + 1; j < 6; j++) x.link(i, j, draw.nextInt(2 * reach + 1) - reach, draw.nextInt(2 * reach + 1) - reach);
        }
        return x;
    }

    /** Each piece must be a plan, each change later than the one ahead, and both sides alike there. */
    private static void pieces(PriceRise x, String name) {
        int n = x.pieces();
        long above = 0, below = 1;
        for (int i = 0; i + 1 < n; i++) {
            CHECK.due(name + " change", x.change(i), 1);
            CHECK.due(name + " rises", x.part(0) * below > above * x.part(1) ? 1 : 0, 1);
            above = x.part(0);
            below = x.part(1);
            CHECK.due(name + " alike", x.piece(i, 1) * below + x.piece(i, 2) * above,
                x.piece(i + 1, 1) * below + x.piece(i + 1, 2) * above);
            CHECK.due(name + " is a plan", x.isPlan(x.piece(i, 0)), 1);
        }
    }

    /** Ways side by side along the corners of a bow: as many pieces as there are links. */
    private static void bow() {
        PriceRise x = new PriceRise();
        int[] a = new int[14], b = new int[14];
        a[0] = -100;
        b[0] = 100;
        for (int i = 1; i < 14; i++) {
            a[i] = a[i - 1] + i;
            b[i] = b[i - 1] - 14 + i;
        }
        for (int i = 0; i < 14; i++) x.link(0, 5, a[i], b[i]);
        CHECK.due("bow", x.pieces(), 14);
        pieces(x, "bow");
    }

    private static void allExtreme() {
        for (int kind = 0; kind < 5; kind++) {
            for (int sign = -1; sign <= 1; sign += 2) {
                PriceRise x = new PriceRise();
                x.kind(kind);
                x.room(200);
                for (int i = 0; i < 5; i++) for (int j = i + 1; j < 6; j++) x.link(i, j, 100, 100);
                for (int i = 0; i < 8; i++) x.thing(25, 100, 100);
                for (int i = 0; i < 8; i++) x.block(100, 100);
                for (int i = 0; i < x.count(3); i++) x.put(i, sign * 100, sign * 100);
                int best = x.bestAt(100, 1);
                int[] few = {1, 5, 4, 0, 0};
                int[] many = {5, 5, 4, 8, 8};
                boolean least = kind < 3;
                int parts = Integer.bitCount(best);
                int want = (sign > 0) == least ? few[kind] : many[kind];
                // Not every way is there: the last link, from 4 to 5, was one too many.
                if (kind == 0) want = sign > 0 ? 1 : 4;
                CHECK.due("extreme parts, kind " + kind, parts, want);
                CHECK.fraction("extreme sum, kind " + kind, x, sign * 10100L * parts, 1);
            }
        }
    }

    /** What a run of calls makes anew, in bytes, once the object stands. */
    private static void makesNothing() {
        com.sun.management.ThreadMXBean room = (com.sun.management.ThreadMXBean) ManagementFactory.getThreadMXBean();
        PriceRise[] all = new PriceRise[5];
        for (int kind = 0; kind < 5; kind++) all[kind] = net(kind, new Random(kind), 100);
        long least = Long.MAX_VALUE;
        for (int round = 0; round < 5; round++) {
            long was = room.getCurrentThreadAllocatedBytes();
            for (int kind = 0; kind < 5; kind++) everyCall(all[kind]);
            least = Math.min(least, room.getCurrentThreadAllocatedBytes() - was);
        }
        CHECK.due("bytes made by 5 runs of every call: " + least, least > 1000 ? 1 : 0, 0);
        long was = room.getCurrentThreadAllocatedBytes();
        new PriceRise();
        long one = room.getCurrentThreadAllocatedBytes() - was;
        CHECK.due("bytes of an object: " + one, one > 60000 ? 1 : 0, 0);
    }

    private static void everyCall(PriceRise x) {
        for (int i = 0; i < 16; i++) {
            x.put(i, i - 7, 9 - i);
            x.thing(i, i, i);
            x.block(i, i);
            x.needs(i, i + 1, true);
            x.pair(i % 4, i / 4, i, -i);
            x.room(i);
            x.top(90 + i);
            x.plans(0);
            x.plans(1);
            x.isPlan(i);
            x.bestAt(i, 3);
            x.pieces();
            x.piece(i, 0);
            x.change(i);
            x.highest(i % 2);
            x.span(x.bestAt(i, 1), 1);
            x.tolerance(i, i, i % 2);
            x.ratio();
            x.rue();
            x.grown();
            x.pace();
            x.part(0);
            x.count(3);
            x.digest();
        }
    }

    /** No call may throw or fail to end, whatever the numbers. */
    private static void anyNumbers() {
        Random draw = new Random(5);
        int[] odd = {Integer.MIN_VALUE, Integer.MIN_VALUE + 1, -101, -100, -1, 0, 1, 2, 3, 4, 5, 6, 7, 8, 13, 14, 15, 16, 20, 31,
            32, 33, 63, 64, 100, 101, 255, 256, 1000, 1001, 65535, 65536, 0x3fffffff, Integer.MAX_VALUE - 1, Integer.MAX_VALUE};
        for (int run = 0; run < 300; run++) {
            PriceRise x = new PriceRise();
            for (int i = 0; i < 512; i++) {
                int[] v = new int[4];
                for (int j = 0; j < 4; j++) v[j] = draw.nextInt(4) == 0 ? odd[draw.nextInt(odd.length)] : draw.nextInt(9);
                anyCall(x, draw.nextInt(28), v);
            }
        }
        CHECK.due("any numbers", 0, 0);
    }

    private static void anyCall(PriceRise x, int which, int[] v) {
        switch (which) {
            case 0 -> x.top(v[0]);
            case 1 -> x.kind(v[0]);
            case 2, 3 -> x.link(v[0], v[1], v[2], v[3]);
            case 4 -> x.pair(v[0], v[1], v[2], v[3]);
            case 5 -> x.thing(v[0], v[1], v[2]);
            case 6 -> x.room(v[0]);
            case 7 -> x.block(v[0], v[1]);
            case 8 -> x.needs(v[0], v[1], v[2] > 3);
            case 9 -> x.put(v[0], v[1], v[2]);
            case 10 -> { if (v[0] == 7) x.clear(); }
            case 11 -> x.plans(v[0]);
            case 12 -> x.isPlan(v[0]);
            case 13 -> x.bestAt(v[0], v[1]);
            case 14 -> x.pieces();
            case 15 -> x.piece(v[0], v[1]);
            case 16 -> x.change(v[0]);
            case 17 -> x.highest(v[0]);
            case 18 -> x.span(v[0], v[1]);
            case 19 -> x.tolerance(v[0], v[1], v[2]);
            case 20 -> x.ratio();
            case 21 -> x.rue();
            case 22 -> x.grown();
            case 23 -> x.pace();
            case 24 -> x.part(v[0]);
            case 25 -> x.count(v[0]);
            default -> x.digest();
        }
    }

    public static void main(String[] args) {
        for (int seed = 0; seed < 200; seed++) {
            pieces(net(seed % 2, new Random(seed), seed % 3 == 0 ? 10 : 100), "net " + seed);
        }
        bow();
        allExtreme();
        anyNumbers();
        makesNothing();
        CHECK.end();
    }
}
