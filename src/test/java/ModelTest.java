import java.util.Random;

/** Long runs of drawn calls, each answer set against the slow model's; the seeds are told, so that a run comes again. */
public final class ModelTest {
    private static final Check CHECK = new Check();

    private final Random draw;
    private final PriceRise x = new PriceRise();
    private final Model m = new Model();
    private final String name;
    private final int reach;
    private final int home;

    private ModelTest(long seed) {
        draw = new Random(seed);
        name = "run " + seed + ": ";
        // Small numbers make plans alike and changes fall together; large ones make many pieces.
        reach = new int[] {2, 6, 100}[(int) (seed % 3)];
        home = (int) (seed / 3 % 5);
    }

    private int line() {
        if (draw.nextInt(60) == 0) return draw.nextBoolean() ? 101 : -101;
        return draw.nextInt(2 * reach + 1) - reach;
    }

    private int slope() {
        return draw.nextInt(3) == 0 ? line() : Math.abs(line());
    }

    /** From 0 to one below n, now and then just outside. */
    private int upTo(int n) {
        int rare = draw.nextInt(40);
        if (rare == 0) return -1;
        if (rare == 1) return n;
        return n <= 0 ? 0 : draw.nextInt(n);
    }

    private void due(String call, long got, long want) {
        CHECK.due(name + call, got, want);
    }

    private void buildUp() {
        int k = draw.nextInt(30) == 0 ? upTo(5) : home;
        due("kind(" + k + ")", x.kind(k), m.kind(k));
        int parts = draw.nextInt(4) == 0 ? 15 : 6 + draw.nextInt(6);
        for (int i = 0; i < parts; i++) addPart();
    }

    private void addPart() {
        int a = line(), b = slope();
        switch (m.kind) {
            case 0, 1 -> {
                int from = upTo(6), to = upTo(6);
                due("link(" + from + ", " + to + ", " + a + ", " + b + ")", x.link(from, to, a, b), m.link(from, to, a, b));
            }
            case 2 -> {
                int one = upTo(4), other = upTo(4);
                due("pair(" + one + ", " + other + ", " + a + ", " + b + ")",
                    x.pair(one, other, a, b), m.pair(one, other, a, b));
            }
            case 3 -> {
                int weight = draw.nextInt(8) == 0 ? upTo(52) : 1 + draw.nextInt(12);
                due("thing(" + weight + ", " + a + ", " + b + ")", x.thing(weight, a, b), m.thing(weight, a, b));
            }
            default -> {
                due("block(" + a + ", " + b + ")", x.block(a, b), m.block(a, b));
                need();
            }
        }
    }

    private void need() {
        int one = upTo(m.blocks.size()), other = upTo(m.blocks.size());
        boolean is = draw.nextInt(4) != 0;
        due("needs(" + one + ", " + other + ", " + is + ")", x.needs(one, other, is), m.needs(one, other, is));
    }

    private void changeOne() {
        switch (draw.nextInt(9)) {
            case 0 -> {
                int t = draw.nextInt(3) == 0 ? upTo(102) : 1 + draw.nextInt(12);
                due("top(" + t + ")", x.top(t), m.top(t));
            }
            case 1 -> {
                int v = draw.nextInt(3) == 0 ? upTo(201) : draw.nextInt(60);
                due("room(" + v + ")", x.room(v), m.room(v));
            }
            case 2, 3, 4 -> {
                int part = upTo(m.count(3)), a = line(), b = slope();
                due("put(" + part + ", " + a + ", " + b + ")", x.put(part, a, b), m.put(part, a, b));
            }
            case 5 -> need();
            case 6 -> {
                if (draw.nextInt(6) != 0) return;
                due("clear()", x.clear(), m.clear());
                for (int i = 0; i < 4; i++) ask();
                buildUp();
            }
            case 7 -> {
                if (draw.nextInt(3) == 0) buildUp();
            }
            default -> addPart();
        }
    }

    private int somePlan() {
        if (draw.nextInt(10) == 0 || m.all().isEmpty()) return upTo(1 << m.count(3));
        return m.all().get(draw.nextInt(m.all().size())).bits();
    }

    private void ask() {
        int what = upTo(2);
        switch (draw.nextInt(16)) {
            case 0 -> due("plans(" + what + ")", x.plans(what), m.plans(what));
            case 1 -> {
                int set = somePlan();
                due("isPlan(" + set + ")", x.isPlan(set), m.isPlan(set));
            }
            case 2, 3 -> {
                int q = 1 + draw.nextInt(draw.nextBoolean() ? 4 : 1001), p = upTo(m.top * q + 1);
                due("bestAt(" + p + ", " + q + ")", x.bestAt(p, q), m.bestAt(p, q));
            }
            case 4, 5 -> due("pieces()", x.pieces(), m.pieces());
            case 6, 7 -> {
                int i = upTo(Math.max(1, m.pieces())), side = upTo(3);
                due("piece(" + i + ", " + side + ")", x.piece(i, side), m.piece(i, side));
            }
            case 8 -> {
                int i = upTo(Math.max(1, m.pieces()));
                due("change(" + i + ")", x.change(i), m.change(i));
            }
            case 9 -> due("highest(" + what + ")", x.highest(what), m.highest(what));
            case 10, 11 -> {
                int plan = somePlan();
                due("span(" + plan + ", " + what + ")", x.span(plan, what), m.span(plan, what));
            }
            case 12 -> {
                int part = upTo(m.count(3)), t = upTo(m.top + 1);
                due("tolerance(" + part + ", " + t + ", " + what + ")", x.tolerance(part, t, what), m.tolerance(part, t, what));
            }
            case 13 -> due("ratio()", x.ratio(), m.ratio());
            case 14 -> due("rue()", x.rue(), m.rue());
            default -> {
                due("grown()", x.grown(), m.grown());
                due("pace()", x.pace(), m.pace());
            }
        }
        due("part(0)", x.part(0), m.part(0));
        due("part(1)", x.part(1), m.part(1));
        due("digest()", x.digest(), m.digest());
    }

    private void run() {
        buildUp();
        for (int i = 0; i < 100; i++) {
            if (draw.nextInt(6) == 0) changeOne();
            else ask();
            int what = upTo(4);
            due("count(" + what + ")", x.count(what), m.count(what));
        }
    }

    public static void main(String[] args) {
        int runs = args.length == 1 ? Integer.parseInt(args[0]) : 600;
        for (int seed = 0; seed < runs && CHECK.wrong() == 0; seed++) new ModelTest(seed).run();
        CHECK.end();
    }
}
