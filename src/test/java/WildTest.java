import java.util.Random;

/** Wild arguments in many states: no call throws, and a call that is refused, or that only asks, changes nothing. */
public final class WildTest {
    private static final int[] VALUES = {
        Integer.MIN_VALUE, Integer.MIN_VALUE + 1, -1000000, -2, -1, 0, 1, 2, 3, 4, 5, 6, 7, 8, 12, 13, 14, 30, 31, 32,
        33, 64, 79, 80, 100, 400, 401, 2000, 2001, 4000, 4001, 8190, 8191, 8192, 1 << 30, Integer.MAX_VALUE - 1,
        Integer.MAX_VALUE};
    private static final int RUNS = 200;
    private static final int CALLS = 400;
    private static final int MAKING_CALLS = 5;

    private WildTest() {
    }

    public static void main(String[] args) {
        Random random = new Random(7L);
        for (int run = 0; run < RUNS; run++) {
            try {
                runOnce("run " + run, random);
            } catch (RuntimeException e) {
                Due.dueTrue("run " + run + " throws nothing, but " + e, false);
            }
        }
        Due.end();
    }

    private static void runOnce(String name, Random random) {
        SheetFolder x = new SheetFolder();
        int panels = 0;
        long state = stateOf(x);
        for (int i = 0; i < CALLS; i++) {
            int call = random.nextInt(20);
            int answer = call < MAKING_CALLS && random.nextBoolean() ? sensible(x, call, random, panels)
                    : wild(x, call, random);
            boolean isChange = call < MAKING_CALLS && (call == 1 ? answer != SheetFolder.NONE : answer == 1);
            if (isChange) {
                panels = x.count(0);
                state = stateOf(x);
            } else if (i % 8 == 0) {
                Due.due(name + " call " + i + " of kind " + call + " leaves the state", stateOf(x), state);
            }
            Due.dueTrue(name + " at most 13 panels", x.count(0) <= 13);
        }
        Due.due(name + " check()", x.check(), 1);
    }

    private static int any(Random random) {
        return VALUES[random.nextInt(VALUES.length)];
    }

    private static int sensible(SheetFolder x, int call, Random random, int panels) {
        switch (call) {
            case 0:
                return random.nextInt(4) == 0 ? x.base(1 + random.nextInt(2000), 1 + random.nextInt(2000)) : 0;
            case 1:
                return x.panel(random.nextInt(panels + 1), random.nextInt(4), random.nextInt(100),
                        1 + random.nextInt(200), 1 + random.nextInt(200), random.nextInt(2));
            case 2:
                return x.deduction(2 * random.nextInt(201));
            case 3:
                return x.gauge(1 + random.nextInt(200));
            default:
                return x.over();
        }
    }

    private static int wild(SheetFolder x, int call, Random random) {
        int a = any(random);
        int b = any(random);
        int c = any(random);
        switch (call) {
            case 0: return x.base(a, b);
            case 1: return x.panel(a, b, c, any(random), any(random), any(random));
            case 2: return x.deduction(a);
            case 3: return x.gauge(a);
            case 4: return x.over();
            case 5: return x.wrong(a);
            case 6: return x.flatOf(a, b);
            case 7: return x.size(a);
            case 8: return x.place(a, b, c);
            case 9: return x.meets(a);
            case 10: return x.moves(a);
            case 11: return x.clear(a, b);
            case 12: return x.edge(a, b);
            case 13: return x.order();
            case 14: return x.step(a);
            case 15: return x.count(a);
            case 16: return x.check();
            case 17: return x.clear(a & 8190, b & 15);
            case 18: return x.edge(a & 8190, b & 15);
            default: return x.place(a & 8190, b & 15, c & 7);
        }
    }

    /** What the state shows, in one number; wrong() is left out, as flat() is asked here. */
    private static long stateOf(SheetFolder x) {
        int panels = x.count(0);
        int all = panels == 0 ? 0 : (1 << panels) - 2;
        long state = panels;
        state = state * 31 + x.flat();
        for (int p = 0; p < panels; p++) {
            for (int what = 0; what < 6; what++) {
                state = state * 31 + x.place(all, p, what);
                state = state * 31 + x.place(0, p, what);
                state = state * 31 + x.flatOf(p, what);
            }
            state = state * 31 + x.moves(p);
            state = state * 31 + x.edge(0, p);
            state = state * 31 + x.clear(0, p);
            state = state * 31 + x.step(p);
        }
        state = state * 31 + x.meets(all);
        return state * 31 + x.count(1);
    }
}
