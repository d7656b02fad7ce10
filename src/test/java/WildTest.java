import java.util.ArrayList;
import java.util.List;
import java.util.Random;

/**
 * Wild arguments in many states: no call throws, and a call that is refused, or that only asks, changes nothing. What
 * was not refused is done again on another object, which has then to show the same. No object has more than 512
 * calls.
 */
public final class WildTest {
    private static final int[] VALUES = {
        Integer.MIN_VALUE, Integer.MIN_VALUE + 1, -1000000, -2, -1, 0, 1, 2, 3, 4, 5, 6, 7, 8, 12, 13, 14, 30, 31, 32,
        33, 64, 79, 80, 100, 400, 401, 2000, 2001, 4000, 4001, 8190, 8191, 8192, 1 << 30, Integer.MAX_VALUE - 1,
        Integer.MAX_VALUE};
    private static final int RUNS = 1500;
    private static final int CALLS = 120;
    private static final int BASE = 0;
    private static final int PANEL = 1;
    private static final int DEDUCTION = 2;
    private static final int GAUGE = 3;
    private static final int OVER = 4;
    private static final int FLAT = 5;
    private static final int KINDS = 21;

    private WildTest() {
    }

    public static void main(String[] args) {
        Random random = new Random(7L);
        int[] panels = new int[14];
        for (int run = 0; run < RUNS; run++) {
            try {
                panels[runOnce("run " + run, random)]++;
            } catch (RuntimeException e) {
                Due.dueTrue("run " + run + " throws nothing, but " + e, false);
            }
        }
        Due.dueTrue("some runs end without a base", panels[0] > 5);
        Due.dueTrue("some runs end with 13 panels", panels[13] > 5);
        Due.end();
    }

    /** How many panels there are in the end. */
    private static int runOnce(String name, Random random) {
        SheetFolder x = new SheetFolder();
        List<int[]> taken = new ArrayList<>();
        int calls = random.nextInt(CALLS);
        boolean isLate = random.nextInt(20) == 0;
        for (int i = 0; i < calls; i++) {
            int[] call = random.nextInt(3) > 0 && !isLate ? sensible(random, i) : wild(random);
            int answer = make(x, call);
            boolean isChange = call[0] == FLAT || call[0] == PANEL && answer != SheetFolder.NONE
                    || call[0] < FLAT && call[0] != PANEL && answer == 1;
            if (isChange) {
                taken.add(call);
            }
        }
        SheetFolder y = new SheetFolder();
        for (int[] call : taken) {
            make(y, call);
        }
        Due.due(name + " wrong(0)", x.wrong(0), y.wrong(0));
        Due.due(name + " wrong(1)", x.wrong(1), y.wrong(1));
        Due.dueTrue(name + " shows what was taken alone", Parts.shown(x).equals(Parts.shown(y)));
        Due.due(name + " check()", x.check(), 1);
        int panels = x.count(0);
        Due.dueTrue(name + " has at most 13 panels", panels >= 0 && panels <= 13);
        return Math.max(0, Math.min(13, panels));
    }

    private static int any(Random random) {
        return VALUES[random.nextInt(VALUES.length)];
    }

    private static int[] sensible(Random random, int i) {
        int kind = i == 0 ? BASE : random.nextInt(60) == 0 ? BASE : 1 + random.nextInt(9);
        switch (kind) {
            case BASE:
                return new int[] {BASE, 1 + random.nextInt(2000), 1 + random.nextInt(2000), 0, 0, 0, 0};
            case DEDUCTION:
                return new int[] {DEDUCTION, 2 * random.nextInt(201), 0, 0, 0, 0, 0};
            case GAUGE:
                return new int[] {GAUGE, 1 + random.nextInt(200), 0, 0, 0, 0, 0};
            case OVER:
                return new int[] {OVER, 0, 0, 0, 0, 0, 0};
            case FLAT:
                return new int[] {FLAT, 0, 0, 0, 0, 0, 0};
            default:
                return new int[] {PANEL, random.nextInt(8), random.nextInt(4), random.nextInt(100),
                    1 + random.nextInt(200), 1 + random.nextInt(200), random.nextInt(2)};
        }
    }

    private static int[] wild(Random random) {
        int kind = random.nextInt(KINDS);
        return new int[] {kind, any(random), any(random), any(random), any(random), any(random), any(random)};
    }

    private static int make(SheetFolder x, int[] a) {
        switch (a[0]) {
            case BASE: return x.base(a[1], a[2]);
            case PANEL: return x.panel(a[1], a[2], a[3], a[4], a[5], a[6]);
            case DEDUCTION: return x.deduction(a[1]);
            case GAUGE: return x.gauge(a[1]);
            case OVER: return x.over();
            case FLAT: return x.flat();
            case 6: return x.wrong(a[1]);
            case 7: return x.flatOf(a[1], a[2]);
            case 8: return x.size(a[1]);
            case 9: return x.place(a[1], a[2], a[3]);
            case 10: return x.meets(a[1]);
            case 11: return x.moves(a[1]);
            case 12: return x.clear(a[1], a[2]);
            case 13: return x.edge(a[1], a[2]);
            case 14: return x.order();
            case 15: return x.step(a[1]);
            case 16: return x.count(a[1]);
            case 17: return x.check();
            case 18: return x.clear(a[1] & 8190, a[2] & 15);
            case 19: return x.edge(a[1] & 8190, a[2] & 15);
            default: return x.place(a[1] & 8190, a[2] & 15, a[3] & 7);
        }
    }
}
