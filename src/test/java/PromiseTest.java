/**
 * The promises 1 to 19, a test for each sentence: ordinary inputs, both sides of each boundary that it names, and
 * refused calls, after which all is as before.
 */
public final class PromiseTest {
    private static final int NONE = Parts.NONE;
    private static final int NOWHERE = Parts.NOWHERE;
    private static final int LEAST = Parts.LEAST;
    private static final int GREATEST = Parts.GREATEST;
    private static final int EAST = Parts.EAST;
    private static final int NORTH = Parts.NORTH;
    private static final int WEST = Parts.WEST;
    private static final int SOUTH = Parts.SOUTH;
    private static final int UP = Parts.UP;
    private static final int DOWN = Parts.DOWN;

    private PromiseTest() {
    }

    public static void main(String[] args) {
        Due.run(PromiseTest::manyCalls, PromiseTest::newObject, PromiseTest::base, PromiseTest::panel,
                PromiseTest::panelRefused, PromiseTest::deductionAndGauge, PromiseTest::over, PromiseTest::flat,
                PromiseTest::flatFirstPair, PromiseTest::wrong, PromiseTest::flatOf, PromiseTest::size,
                PromiseTest::place, PromiseTest::meets, PromiseTest::moves, PromiseTest::clear, PromiseTest::edge,
                PromiseTest::order, PromiseTest::step, PromiseTest::count, PromiseTest::check);
        Due.end();
    }

    private static void due(String call, long got, long want) {
        Due.due(call, got, want);
    }

    private static int join(SheetFolder x, int parent, int side, int offset, int wide, int deep, int up) {
        return Parts.join(x, parent, side, offset, wide, deep, up);
    }

    private static void dueSame(String name, SheetFolder x, String before) {
        Due.dueTrue(name + ": all is as before", Parts.shown(x).equals(before));
    }

    /** All twelve bends, and an order to be found anew at every other call. */
    private static void manyCalls() {
        Due.sentence("An object is used for at most 512 calls");
        SheetFolder x = new SheetFolder();
        due("call 1", x.base(1000, 1000), 1);
        for (int k = 0; k < 12; k++) {
            due("call " + (k + 2), x.panel(0, k % 4, k / 4 * 300, 200, 100, UP), k + 1);
        }
        for (int call = 14; call < 512; call += 2) {
            due("call " + call, x.over(), 1);
            due("call " + (call + 1), x.order(), 12);
        }
        due("call 512", x.place(8190, 12, 2), -100);
    }

    private static void newObject() {
        Due.sentence("1: No panels");
        SheetFolder x = new SheetFolder();
        due("count(0)", x.count(0), 0);
        due("place of panel 0", x.place(0, 0, 0), NOWHERE);
        due("panel at panel 0", x.panel(0, 0, 0, 1, 1, 1), NONE);
        Due.sentence("1: no deduction");
        x.base(100, 50);
        join(x, 0, EAST, 0, 50, 10, UP);
        due("size(0)", x.size(0), 110);
        due("size(0) with one", x.deduction(2) + x.size(0), 109);
    }

    private static void base() {
        newBase();
        baseSides();
        baseRefused();
    }

    private static void newBase() {
        Due.sentence("2: A new base, all other panels are no more: 1");
        SheetFolder x = Parts.channel(120);
        due("base(60, 70)", x.base(60, 70), 1);
        due("panels", x.count(0), 1);
        Parts.duePlace("the new one", x, 0, 0, 0, 0, 0, 60, 70, 0);
        due("panel 1 is no more", x.place(0, 1, 0), NOWHERE);
        due("panel 1 is not in the flat pattern", x.flatOf(1, 0), NOWHERE);
        due("bend 1 is no more", x.moves(1), NONE);
        due("bit 1 is no more", x.meets(2), NONE);
        Parts.dueSteps("nothing to fold", x);
        due("one set", x.count(1), 1);
        x.deduction(10);
        due("no side has a bend any more", x.size(0), 60);
        due("the first panel again", x.panel(0, NORTH, 0, 10, 10, UP), 1);
        due("all sides but one are free", x.gauge(60) + x.edge(0, 1), 1 + SOUTH);
        x.gauge(4000);
        Parts.dueNoOrder("no order", x);
        x.base(10, 10);
        Parts.dueSteps("a new base after a part without an order", x);
        due("one set after a part without an order", x.count(1), 1);
        SheetFolder y = Parts.flanges(12);
        y.base(10, 10);
        due("there is room for twelve again", y.panel(0, EAST, 0, 10, 10, UP), 1);
    }

    private static void baseSides() {
        Due.sentence("2: when its sides are not 1 .. 2000");
        int[] wrong = {LEAST, -2000, -1, 0, 2001, 4000, 65537, GREATEST};
        for (int side : wrong) {
            SheetFolder x = new SheetFolder();
            due("base(" + side + ", 5)", x.base(side, 5), 0);
            due("base(5, " + side + ")", x.base(5, side), 0);
            due("base(" + side + ", " + side + ")", x.base(side, side), 0);
            due("no base", x.count(0), 0);
        }
        int[] right = {1, 2, 1999, 2000};
        for (int side : right) {
            SheetFolder x = new SheetFolder();
            due("base(" + side + ", 5)", x.base(side, 5), 1);
            due("base(5, " + side + ")", x.base(5, side), 1);
            due("base(" + side + ", " + side + ")", x.base(side, side), 1);
            Parts.duePlace("base", x, 0, 0, 0, 0, 0, side, side, 0);
        }
    }

    private static void baseRefused() {
        Due.sentence("2: 0, and nothing is done");
        int[] gauges = {90, 101};
        for (int gauge : gauges) {
            SheetFolder x = Parts.channel(120);
            x.deduction(4);
            x.gauge(gauge);
            String before = Parts.shown(x);
            due("too narrow", x.base(0, 5), 0);
            due("too high", x.base(5, 2001), 0);
            dueSame("gauge " + gauge, x, before);
        }
    }

    private static void panel() {
        Due.sentence("3: One more panel, its bend up (1) or down (0): its number");
        SheetFolder x = Parts.based(100, 80);
        due("up", x.panel(0, EAST, 0, 10, 10, 1), 1);
        due("down", x.panel(0, WEST, 0, 10, 10, 0), 2);
        due("up stands", x.place(2, 1, 5), 10);
        due("down hangs", x.place(4, 2, 2), -10);
        due("neither: 2", x.panel(0, NORTH, 0, 10, 10, 2), NONE);
        due("neither: -1", x.panel(0, NORTH, 0, 10, 10, -1), NONE);
        due("neither: LEAST", x.panel(0, NORTH, 0, 10, 10, LEAST), NONE);
        due("panels", x.count(0), 3);
        due("joined to panel 1", x.panel(1, EAST, 0, 10, 10, 1), 3);
        Due.sentence("3: or there are 13");
        SheetFolder y = Parts.flanges(11);
        due("the thirteenth", y.panel(0, SOUTH, 600, 200, 100, UP), 12);
        due("the fourteenth", y.panel(0, SOUTH, 700, 10, 10, UP), NONE);
        due("the fourteenth, at another panel", y.panel(12, SOUTH, 0, 10, 10, UP), NONE);
        dueSame("full", y, Parts.shown(Parts.flanges(12)));
    }

    private static void panelRefused() {
        panelParent();
        panelSide();
        panelWithinTheSide();
        panelWideAndDeep();
        panelNothingDone();
    }

    private static void panelParent() {
        Due.sentence("3: NONE when there is no such parent");
        SheetFolder x = Parts.corner();
        int[] wrong = {LEAST, -2, -1, 3, 4, 12, 13, 14, GREATEST};
        for (int parent : wrong) {
            due("parent " + parent, x.panel(parent, SOUTH, 0, 1, 1, UP), NONE);
        }
        due("the last parent", x.panel(2, EAST, 0, 1, 1, UP), 3);
        due("the newest one", x.panel(3, EAST, 0, 1, 1, UP), 4);
        SheetFolder y = Parts.channel(40);
        y.base(50, 50);
        due("a parent that is no more", y.panel(1, NORTH, 0, 1, 1, UP), NONE);
        due("nor the one after it", y.panel(2, NORTH, 0, 1, 1, UP), NONE);
        Due.sentence("3: no such parent, without a base");
        for (int parent = -1; parent < 3; parent++) {
            due("parent " + parent, new SheetFolder().panel(parent, EAST, 0, 1, 1, UP), NONE);
        }
    }

    private static void panelSide() {
        Due.sentence("3: NONE when there is no such side");
        int[] wrong = {LEAST, -2, -1, 4, 5, 6, GREATEST};
        SheetFolder x = Parts.based(100, 80);
        for (int side : wrong) {
            due("side " + side, x.panel(0, side, 0, 1, 1, UP), NONE);
        }
        for (int side = 0; side < 4; side++) {
            due("side " + side, x.panel(0, side, 0, 1, 1, UP), side + 1);
        }
        Due.sentence("3: NONE when the parent is itself joined by that side");
        for (int side = 0; side < 4; side++) {
            SheetFolder y = Parts.based(100, 80);
            join(y, 0, side, 0, 50, 50, UP);
            int back = (side + 2) % 4;
            due("side " + back, y.panel(1, back, 0, 1, 1, UP), NONE);
            due("side " + side, y.panel(1, side, 0, 1, 1, UP), 2);
            due("beside", y.panel(1, (side + 1) % 4, 0, 1, 1, UP), 3);
            due("beside", y.panel(1, (side + 3) % 4, 0, 1, 1, UP), 4);
            due("one more on a side that has a bend", y.panel(1, side, 2, 1, 1, UP), 5);
            due("one more on the parent's side", y.panel(0, side, 60, 1, 1, UP), 6);
        }
    }

    private static void panelWithinTheSide() {
        Due.sentence("3: NONE when it is not within the side");
        int[] length = {80, 100, 80, 100};
        for (int side = 0; side < 4; side++) {
            SheetFolder x = Parts.based(100, 80);
            int end = length[side];
            due("begins before", x.panel(0, side, -1, 10, 10, UP), NONE);
            due("begins far before", x.panel(0, side, LEAST, 10, 10, UP), NONE);
            due("ends behind", x.panel(0, side, end - 9, 10, 10, UP), NONE);
            due("begins at the end", x.panel(0, side, end, 1, 10, UP), NONE);
            due("too wide by 1", x.panel(0, side, 0, end + 1, 10, UP), NONE);
            due("too wide by 1, from before", x.panel(0, side, -1, end + 1, 10, UP), NONE);
            due("wraps around", x.panel(0, side, GREATEST, 1, 10, UP), NONE);
            due("wraps around to the beginning", x.panel(0, side, GREATEST, 2, 10, UP), NONE);
            due("wraps around by its width", x.panel(0, side, 1, GREATEST, 10, UP), NONE);
            due("all of the side", x.panel(0, side, 0, end, 10, UP), 1);
            due("up to the end", x.panel(0, side, end - 10, 10, 10, UP), 2);
            due("from the beginning", x.panel(0, side, 0, 10, 10, UP), 3);
            due("the last place", x.panel(0, side, end - 1, 1, 10, UP), 4);
        }
        Due.sentence("3: not within the side of a panel other than the base");
        SheetFolder y = Parts.corner();
        due("panel 1 is 50 high", y.panel(1, EAST, 0, 51, 5, UP), NONE);
        due("panel 1 is 30 wide", y.panel(1, SOUTH, 11, 20, 5, UP), NONE);
        due("all of its height", y.panel(1, EAST, 0, 50, 5, UP), 3);
        due("up to the end of its width", y.panel(1, SOUTH, 10, 20, 5, UP), 4);
        due("panel 2 is 15 high", y.panel(2, WEST, 0, 16, 5, UP), NONE);
        due("all of panel 2's height", y.panel(2, WEST, 0, 15, 5, UP), 5);
    }

    private static void panelWideAndDeep() {
        int[] wrong = {LEAST, -1, 0, 2001, 2002, GREATEST};
        Due.sentence("3: NONE when it is not 1 .. 2000 wide");
        SheetFolder x = Parts.based(2000, 2000);
        for (int wide : wrong) {
            due("wide " + wide, x.panel(0, EAST, 0, wide, 10, UP), NONE);
            due("wide " + wide + " from 5", x.panel(0, NORTH, 5, wide, 10, UP), NONE);
        }
        due("wide 1", x.panel(0, EAST, 0, 1, 10, UP), 1);
        due("wide 2000", x.panel(0, WEST, 0, 2000, 10, UP), 2);
        Due.sentence("3: NONE when it is not 1 .. 2000 deep");
        for (int deep : wrong) {
            due("deep " + deep, x.panel(0, EAST, 0, 10, deep, UP), NONE);
            due("deep " + deep, x.panel(0, SOUTH, 0, 10, deep, UP), NONE);
        }
        due("deep 1", x.panel(0, EAST, 0, 10, 1, UP), 3);
        due("deep 2000", x.panel(0, SOUTH, 0, 10, 2000, UP), 4);
        Parts.duePlace("deep 1", x, 0, 3, 2000, 0, 0, 2001, 10, 0);
        Parts.duePlace("deep 2000", x, 0, 4, 0, -2000, 0, 10, 0, 0);
    }

    private static void panelNothingDone() {
        Due.sentence("3: NONE, and nothing is done");
        SheetFolder x = Parts.channel(120);
        x.deduction(4);
        String before = Parts.shown(x);
        due("no parent", x.panel(3, NORTH, 0, 10, 10, UP), NONE);
        due("no side", x.panel(0, 4, 0, 10, 10, UP), NONE);
        due("joined by it", x.panel(1, WEST, 0, 10, 10, UP), NONE);
        due("not within", x.panel(0, NORTH, 95, 10, 10, UP), NONE);
        due("not deep", x.panel(0, NORTH, 0, 10, 0, UP), NONE);
        due("neither up nor down", x.panel(0, NORTH, 0, 10, 10, 2), NONE);
        dueSame("after them", x, before);
        due("the next number", x.panel(0, NORTH, 0, 10, 10, UP), 3);
    }

    private static void deductionAndGauge() {
        deductionTaken();
        deductionRefused();
        gaugeTaken();
        gaugeRefused();
    }

    private static void deductionTaken() {
        Due.sentence("4: The deduction: 1");
        SheetFolder x = Parts.based(500, 500);
        join(x, 0, EAST, 0, 500, 500, UP);
        int[] right = {0, 2, 4, 398, 400};
        for (int d : right) {
            due("deduction(" + d + ")", x.deduction(d), 1);
            due("size with " + d, x.size(0), 1000 - d);
        }
        due("deduction(0) again", x.deduction(0), 1);
        due("size with 0", x.size(0), 1000);
        SheetFolder y = new SheetFolder();
        due("before a base", y.deduction(10), 1);
        y.base(50, 50);
        join(y, 0, EAST, 0, 50, 50, UP);
        due("it holds for a base after it", y.size(0), 90);
    }

    private static void deductionRefused() {
        SheetFolder x = Parts.corner();
        x.deduction(6);
        String before = Parts.shown(x);
        Due.sentence("4: 0, and nothing is done, when it is not even");
        int[] odd = {1, 3, 5, 399, -1, GREATEST};
        for (int d : odd) {
            due("deduction(" + d + ")", x.deduction(d), 0);
        }
        dueSame("odd ones", x, before);
        Due.sentence("4: 0, and nothing is done, when it is not 0 .. 400");
        int[] out = {-2, -400, LEAST, 402, 404, 401, GREATEST - 1};
        for (int d : out) {
            due("deduction(" + d + ")", x.deduction(d), 0);
        }
        dueSame("too small or too large", x, before);
    }

    private static void gaugeTaken() {
        Due.sentence("5: The gauge: 1");
        SheetFolder x = Parts.based(100, 2000);
        join(x, 0, EAST, 0, 10, 10, UP);
        int[] right = {1, 2, 1999, 2000, 2001, 3999, 4000};
        for (int length : right) {
            due("gauge(" + length + ")", x.gauge(length), 1);
            due("edge with " + length, x.edge(0, 1), length <= 2000 ? WEST : NONE);
            due("order with " + length, x.order(), length <= 2000 ? 1 : NONE);
        }
        SheetFolder y = new SheetFolder();
        due("before a base", y.gauge(10), 1);
        y.base(10, 10);
        join(y, 0, EAST, 0, 10, 10, UP);
        due("it holds for a base after it", y.edge(0, 1), WEST);
    }

    private static void gaugeRefused() {
        Due.sentence("5: 0, and nothing is done, when it is not 1 .. 4000");
        SheetFolder x = Parts.based(79, 79);
        join(x, 0, EAST, 0, 10, 10, UP);
        x.gauge(79);
        String before = Parts.shown(x);
        int[] wrong = {0, -1, -80, LEAST, 4001, 4002, GREATEST};
        for (int length : wrong) {
            due("gauge(" + length + ")", x.gauge(length), 0);
        }
        dueSame("after them", x, before);
        due("the old one still", x.edge(0, 1), WEST);
    }

    private static void over() {
        overPlan();
        overSides();
        overBends();
        Due.sentence("6: 0 when there is no base");
        SheetFolder x = new SheetFolder();
        due("over()", x.over(), 0);
        due("no base still", x.count(0), 0);
        due("after a refused base", x.base(0, 0) + x.over(), 0);
    }

    private static void overPlan() {
        Due.sentence("6: x of the plan the other way round (that of the base from 0 on again)");
        SheetFolder x = Parts.corner();
        join(x, 0, NORTH, 10, 20, 7, UP);
        due("over()", x.over(), 1);
        Parts.duePlace("base", x, 0, 0, 0, 0, 0, 100, 80, 0);
        Parts.duePlace("east is west", x, 0, 1, -30, 10, 0, 0, 60, 0);
        Parts.duePlace("further on", x, 0, 2, -25, 60, 0, -5, 75, 0);
        Parts.duePlace("north stays north", x, 0, 3, 70, 80, 0, 90, 87, 0);
        x.deduction(10);
        Parts.dueFlat("flat", x, 1, 0, 10, 25, 55);
        SheetFolder y = Parts.corner();
        String before = Parts.shown(y);
        due("over()", y.over(), 1);
        due("over() again", y.over(), 1);
        dueSame("twice over", y, before);
        SheetFolder z = Parts.based(30, 40);
        due("a base alone", z.over(), 1);
        Parts.duePlace("a base alone", z, 0, 0, 0, 0, 0, 30, 40, 0);
    }

    private static void overSides() {
        Due.sentence("6: so that east is west");
        SheetFolder x = Parts.corner();
        x.gauge(50);
        due("its gauge edge is west", x.edge(0, 1), WEST);
        x.over();
        due("its gauge edge is east", x.edge(0, 1), EAST);
        due("panel 1 is joined by its east", x.panel(1, EAST, 0, 10, 10, UP), NONE);
        due("no more by its west", x.panel(1, WEST, 0, 10, 10, UP), 3);
        Parts.duePlace("joined then", x, 0, 3, -40, 10, 0, -30, 20, 0);
        due("panel 2 is joined by its south", x.panel(2, SOUTH, 0, 10, 10, UP), NONE);
        due("offsets are from the new least place", x.panel(2, NORTH, 0, 5, 5, UP), 4);
        Parts.duePlace("from the new least place", x, 0, 4, -25, 75, 0, -20, 80, 0);
    }

    private static void overBends() {
        Due.sentence("6: and all bends are up that were down");
        SheetFolder x = Parts.corner();
        x.over();
        Parts.duePlace("down that was up", x, 2, 1, 0, 10, -30, 0, 60, 0);
        Parts.duePlace("up that was down", x, 4, 2, -25, 60, 0, -5, 60, 15);
        join(x, 0, NORTH, 0, 10, 10, UP);
        due("a new one is as it is told", x.place(8, 3, 5), 10);
        SheetFolder y = Parts.channel(120);
        due("an order", y.order() * 10 + y.step(0), 22);
        y.over();
        Parts.dueSteps("the order is the same over", y, 2, 1);
    }

    private static void flat() {
        Due.sentence("7: NONE when there is no base");
        due("flat()", new SheetFolder().flat(), NONE);
        Due.sentence("7: 0");
        Parts.dueWrong("a base alone", Parts.based(1, 1), 0, NONE, NONE);
        Parts.dueWrong("a corner", Parts.corner(), 0, NONE, NONE);
        flatNoWidth();
        flatNoHeight();
        flatFirstWithout();
    }

    private static void flatNoWidth() {
        Due.sentence("7: 1 when a panel would have no width left");
        int[] deduction = {18, 20, 22, 400};
        int[] want = {0, 1, 1, 1};
        int[] half = {NONE, 1, 1, 0};
        int[] both = {NONE, 0, 0, 0};
        for (int i = 0; i < 4; i++) {
            SheetFolder x = Parts.based(100, 100);
            join(x, 0, EAST, 0, 100, 10, UP);
            x.deduction(deduction[i]);
            Parts.dueWrong("a half off 10 with " + deduction[i], x, want[i], half[i], NONE);
            SheetFolder y = Parts.based(20, 100);
            join(y, 0, EAST, 0, 100, 300, UP);
            join(y, 0, WEST, 0, 100, 300, UP);
            y.deduction(deduction[i]);
            Parts.dueWrong("both halves off 20 with " + deduction[i], y, want[i], both[i], NONE);
        }
    }

    private static void flatNoHeight() {
        Due.sentence("7: 1 when a panel would have no height left");
        int[] deduction = {18, 20, 22};
        int[] want = {0, 1, 1};
        int[] half = {NONE, 1, 1};
        int[] both = {NONE, 0, 0};
        for (int i = 0; i < 3; i++) {
            SheetFolder x = Parts.based(100, 100);
            join(x, 0, SOUTH, 0, 100, 10, UP);
            x.deduction(deduction[i]);
            Parts.dueWrong("a half off 10 with " + deduction[i], x, want[i], half[i], NONE);
            SheetFolder y = Parts.based(100, 20);
            join(y, 0, NORTH, 0, 100, 300, UP);
            join(y, 0, SOUTH, 0, 100, 300, UP);
            y.deduction(deduction[i]);
            Parts.dueWrong("both halves off 20 with " + deduction[i], y, want[i], both[i], NONE);
        }
    }

    private static void flatFirstWithout() {
        Due.sentence("7: 1: the first one");
        SheetFolder x = Parts.based(200, 200);
        join(x, 0, EAST, 0, 50, 60, UP);
        join(x, 0, NORTH, 0, 50, 10, UP);
        join(x, 0, SOUTH, 0, 50, 8, UP);
        x.deduction(20);
        Parts.dueWrong("panels 2 and 3", x, 1, 2, NONE);
        x.deduction(16);
        Parts.dueWrong("panel 3 alone", x, 1, 3, NONE);
        x.deduction(120);
        Parts.dueWrong("panels 1, 2 and 3", x, 1, 1, NONE);
        x.deduction(200);
        Parts.dueWrong("all", x, 1, 0, NONE);
        Due.sentence("7: 1 comes before 2");
        SheetFolder y = Parts.based(100, 100);
        join(y, 0, EAST, 0, 60, 50, UP);
        join(y, 0, EAST, 50, 50, 50, UP);
        join(y, 0, WEST, 0, 50, 10, UP);
        Parts.dueWrong("a pair", y, 2, 1, 2);
        y.deduction(20);
        Parts.dueWrong("a pair, and a later panel without width", y, 1, 3, NONE);
    }

    private static void flatFirstPair() {
        Due.sentence("7: 2 when two would have inner points in common");
        for (int side = 0; side < 4; side++) {
            SheetFolder x = Parts.based(100, 100);
            join(x, 0, side, 0, 50, 50, UP);
            join(x, 0, side, 50, 50, 50, UP);
            Parts.dueWrong("side " + side + ", from 50", x, 0, NONE, NONE);
            SheetFolder y = Parts.based(100, 100);
            join(y, 0, side, 0, 50, 50, UP);
            join(y, 0, side, 49, 50, 50, UP);
            Parts.dueWrong("side " + side + ", from 49", y, 2, 1, 2);
            SheetFolder z = Parts.based(100, 100);
            join(z, 0, side, 50, 50, 50, UP);
            join(z, 0, side, 1, 50, 50, UP);
            Parts.dueWrong("side " + side + ", up to 51", z, 2, 1, 2);
        }
        Due.sentence("7: 2: in the pattern, not in the plan");
        SheetFolder x = Parts.based(100, 100);
        join(x, 0, EAST, 0, 100, 50, UP);
        join(x, 0, NORTH, 0, 100, 50, UP);
        Parts.dueWrong("a corner in common", x, 0, NONE, NONE);
        x.deduction(2);
        Parts.dueWrong("moved together, a corner overlaps", x, 2, 1, 2);
        Due.sentence("7: 2: the first pair, by the lesser, then by the other one");
        SheetFolder y = Parts.based(100, 100);
        join(y, 0, EAST, 0, 20, 50, UP);
        join(y, 0, NORTH, 0, 20, 50, UP);
        join(y, 0, WEST, 0, 20, 50, UP);
        join(y, 0, WEST, 19, 20, 50, UP);
        Parts.dueWrong("3 and 4", y, 2, 3, 4);
        join(y, 0, NORTH, 19, 20, 50, UP);
        Parts.dueWrong("2 and 5 before 3 and 4", y, 2, 2, 5);
        join(y, 0, EAST, 19, 20, 50, UP);
        Parts.dueWrong("1 and 6 before 2 and 5", y, 2, 1, 6);
        join(y, 0, EAST, 0, 10, 50, UP);
        Parts.dueWrong("1 and 6 before 1 and 7", y, 2, 1, 6);
    }

    private static void wrong() {
        Due.sentence("8: NONE when there is none such");
        SheetFolder x = Parts.based(100, 100);
        join(x, 0, EAST, 0, 60, 50, UP);
        join(x, 0, EAST, 50, 40, 50, UP);
        due("before any flat(): 0", x.wrong(0), NONE);
        due("before any flat(): 1", x.wrong(1), NONE);
        due("flat()", x.flat(), 2);
        int[] others = {LEAST, -2, -1, 2, 3, GREATEST};
        for (int i : others) {
            due("wrong(" + i + ")", x.wrong(i), NONE);
        }
        Due.sentence("8: Of the latest flat()");
        x.base(10, 10);
        due("another part, no flat() since: 0", x.wrong(0), 1);
        due("another part, no flat() since: 1", x.wrong(1), 2);
        Parts.dueWrong("a later one", x, 0, NONE, NONE);
        join(x, 0, EAST, 0, 10, 10, UP);
        x.deduction(40);
        due("a deduction alone: 0", x.wrong(0), NONE);
        Parts.dueWrong("a later one", x, 1, 0, NONE);
        Due.sentence("8: that was not NONE");
        SheetFolder y = new SheetFolder();
        due("flat()", y.flat(), NONE);
        due("after NONE: 0", y.wrong(0), NONE);
        due("after NONE: 1", y.wrong(1), NONE);
        Due.sentence("8: the other one of the pair (1)");
        SheetFolder z = Parts.based(100, 100);
        join(z, 0, EAST, 0, 60, 10, UP);
        join(z, 0, EAST, 50, 40, 10, UP);
        Parts.dueWrong("a pair", z, 2, 1, 2);
        z.deduction(20);
        Parts.dueWrong("no pair any more, a panel without width", z, 1, 1, NONE);
    }

    private static void flatOf() {
        Due.sentence("9: least x (what 0), y (1), greatest x (2), y (3), the least of all being 0");
        SheetFolder x = Parts.corner();
        Parts.dueFlat("no deduction", x, 2, 105, 60, 125, 75);
        join(x, 0, WEST, 0, 20, 40, UP);
        join(x, 0, SOUTH, 0, 20, 30, UP);
        Parts.dueFlat("from the west one", x, 3, 0, 30, 40, 50);
        Parts.dueFlat("from the south one", x, 4, 40, 0, 60, 30);
        Parts.dueFlat("the base", x, 0, 40, 30, 140, 110);
        x.deduction(10);
        Parts.dueFlat("with a deduction", x, 3, 0, 20, 35, 40);
        Parts.dueFlat("with a deduction", x, 0, 35, 25, 125, 100);
        flatOfNoPattern();
        Due.sentence("9: NOWHERE when there is none such");
        int[] others = {LEAST, -1, 5, 6, 13, GREATEST};
        for (int p : others) {
            due("flatOf(" + p + ", 0)", x.flatOf(p, 0), NOWHERE);
        }
        int[] whats = {LEAST, -1, 4, 5, GREATEST};
        for (int what : whats) {
            due("flatOf(0, " + what + ")", x.flatOf(0, what), NOWHERE);
            due("flatOf(4, " + what + ")", x.flatOf(4, what), NOWHERE);
        }
        for (int what = 0; what < 4; what++) {
            due("without a base", new SheetFolder().flatOf(0, what), NOWHERE);
        }
    }

    private static void flatOfNoPattern() {
        Due.sentence("9: A panel's place in the flat pattern (even if it is none)");
        SheetFolder x = Parts.based(100, 100);
        join(x, 0, EAST, 0, 60, 50, UP);
        join(x, 0, EAST, 50, 40, 50, UP);
        Parts.dueWrong("a pair", x, 2, 1, 2);
        Parts.dueFlat("a pair", x, 2, 100, 50, 150, 90);
        SheetFolder y = Parts.based(100, 100);
        join(y, 0, EAST, 0, 100, 40, UP);
        y.deduction(80);
        Parts.dueWrong("no width", y, 1, 1, NONE);
        Parts.dueFlat("no width", y, 1, 60, 0, 60, 100);
        // With less than no width its west side is east of its east side.
        SheetFolder z = Parts.based(100, 100);
        join(z, 0, EAST, 0, 100, 60, UP);
        join(z, 1, EAST, 0, 100, 50, UP);
        z.deduction(80);
        Parts.dueWrong("less than no width", z, 1, 1, NONE);
        Parts.dueFlat("less than no width", z, 0, 0, 0, 60, 100);
        Parts.dueFlat("less than no width", z, 1, 60, 0, 40, 100);
        Parts.dueFlat("less than no width", z, 2, 40, 0, 50, 100);
        due("less than no width: size", z.size(0), 60);
    }

    private static void size() {
        Due.sentence("10: The greatest x (what 0) and y (1) of all in the flat pattern");
        SheetFolder x = Parts.based(100, 80);
        due("a base alone: 0", x.size(0), 100);
        due("a base alone: 1", x.size(1), 80);
        join(x, 0, WEST, 0, 10, 30, UP);
        due("to the west: 0", x.size(0), 130);
        due("to the west: 1", x.size(1), 80);
        join(x, 0, SOUTH, 0, 10, 25, UP);
        due("to the south: 1", x.size(1), 105);
        join(x, 0, NORTH, 0, 10, 5, UP);
        due("to the north: 1", x.size(1), 110);
        x.deduction(4);
        due("with a deduction: 0", x.size(0), 126);
        due("with a deduction: 1", x.size(1), 102);
        Due.sentence("10: NOWHERE when there is none such");
        int[] others = {LEAST, -1, 2, 3, GREATEST};
        for (int what : others) {
            due("size(" + what + ")", x.size(what), NOWHERE);
        }
        due("without a base: 0", new SheetFolder().size(0), NOWHERE);
        due("without a base: 1", new SheetFolder().size(1), NOWHERE);
    }

    private static void place() {
        Due.sentence("11: least x, y, z (what 0 to 2), greatest (3 to 5)");
        SheetFolder x = Parts.corner();
        Parts.duePlace("all folded", x, 6, 2, 100, 60, 5, 115, 60, 25);
        Parts.duePlace("all folded", x, 6, 1, 100, 10, 0, 100, 60, 30);
        Due.sentence("11: NOWHERE when there is none such");
        int[] panels = {LEAST, -1, 3, 13, GREATEST};
        for (int p : panels) {
            due("panel " + p, x.place(0, p, 0), NOWHERE);
        }
        int[] whats = {LEAST, -1, 6, 7, GREATEST};
        for (int what : whats) {
            due("what " + what, x.place(0, 0, what), NOWHERE);
        }
        due("without a base", new SheetFolder().place(0, 0, 0), NOWHERE);
        Due.sentence("11: NOWHERE for another bit than those of bends");
        int[] bits = {1, 3, 7, 8, 8 + 2, 16, 1 << 13, 1 << 30, LEAST, LEAST + 2, -1, -2, GREATEST};
        for (int wrong : bits) {
            due("bits " + wrong, x.place(wrong, 0, 0), NOWHERE);
            due("bits " + wrong, x.place(wrong, 2, 5), NOWHERE);
        }
        SheetFolder y = Parts.flanges(12);
        due("bits 8190", y.place(8190, 12, 5), 100);
        due("bits 8192", y.place(8192, 12, 5), NOWHERE);
        due("bits 8191", y.place(8191, 12, 5), NOWHERE);
    }

    private static void meets() {
        Due.sentence("12: How many pairs of panels that are not joined meet");
        SheetFolder x = Parts.based(100, 100);
        due("a base alone", x.meets(0), 0);
        join(x, 0, EAST, 0, 100, 50, UP);
        due("joined ones", x.meets(0) + x.meets(2), 0);
        join(x, 1, NORTH, 0, 50, 100, UP);
        join(x, 2, WEST, 0, 100, 100, UP);
        join(x, 3, SOUTH, 0, 50, 20, UP);
        due("4 on the base", x.meets(0), 1);
        due("4 stands on the base's edge", x.meets(16), 0);
        join(x, 3, SOUTH, 30, 50, 20, UP);
        due("4, 5 and the base", x.meets(0), 3);
        Due.sentence("12: NONE when there is no base");
        due("meets(0)", new SheetFolder().meets(0), NONE);
        Due.sentence("12: NONE for another bit");
        int[] bits = {1, 3, 63, 64, 64 + 2, 1 << 30, LEAST, LEAST + 2, -1, -2, GREATEST};
        for (int wrong : bits) {
            due("meets(" + wrong + ")", x.meets(wrong), NONE);
        }
    }

    private static void moves() {
        Due.sentence("13: The panels that move with a bend, by bits");
        SheetFolder x = Parts.channel(40);
        due("moves(1)", x.moves(1), 1);
        due("moves(2)", x.moves(2), 4);
        due("the greatest bend", Parts.flanges(12).moves(12), 4096);
        Due.sentence("13: NONE when there is no such bend");
        int[] others = {LEAST, -1, 0, 3, 13, 32, 33, GREATEST};
        for (int bend : others) {
            due("moves(" + bend + ")", x.moves(bend), NONE);
        }
        due("a base alone", Parts.based(5, 5).moves(1), NONE);
        due("without a base: 0", new SheetFolder().moves(0), NONE);
        due("without a base: 1", new SheetFolder().moves(1), NONE);
    }

    private static void clear() {
        Due.sentence("14: Whether a bend's turn is clear with some others folded: 1, 0");
        due("1", Parts.channel(51).clear(0, 2), 1);
        due("0", Parts.channel(51).clear(2, 2), 0);
        SheetFolder x = Parts.channel(40);
        Due.sentence("14: NONE when there is no such bend");
        for (int bend : new int[] {LEAST, -1, 0, 3, 13, 32, 33, 34, GREATEST}) {
            due("clear(0, " + bend + ")", x.clear(0, bend), NONE);
        }
        due("without a base", new SheetFolder().clear(0, 1), NONE);
        Due.sentence("14: NONE for another bit");
        for (int bits : new int[] {1, 3, 8, 8 + 2, 1 << 30, LEAST, LEAST + 2, -8, GREATEST - 4}) {
            due("clear(" + bits + ", 2)", x.clear(bits, 2), NONE);
        }
        Due.sentence("14: NONE for its own bit");
        due("its own", x.clear(4, 2), NONE);
        due("its own and another", x.clear(6, 2), NONE);
        due("its own", x.clear(2, 1), NONE);
        due("another one's", x.clear(2, 2), 1);
        due("another one's", x.clear(4, 1), 1);
    }

    private static void edge() {
        Due.sentence("15: The gauge edge for it: 4 times the panel and the side");
        SheetFolder x = Parts.channel(40);
        due("of the base", x.edge(0, 1), WEST);
        due("of the base, with bend 1 folded", x.edge(2, 2), WEST);
        join(x, 0, WEST, 0, 10, 10, UP);
        due("of panel 2", x.edge(0, 1), 8 + EAST);
        due("of the greatest panel", lastOfThirteen().edge(0, 11), 48 + NORTH);
        Due.sentence("15: NONE when there is none");
        x.gauge(101);
        due("too long a gauge", x.edge(0, 1), NONE);
        x.gauge(100);
        due("just long enough", x.edge(0, 1), 8 + EAST);
        Due.sentence("15: NONE as above: no such bend");
        for (int bend : new int[] {LEAST, -1, 0, 4, 13, 32, 33, 34, GREATEST}) {
            due("edge(0, " + bend + ")", x.edge(0, bend), NONE);
        }
        due("without a base", new SheetFolder().edge(0, 1), NONE);
        Due.sentence("15: NONE as above: another bit");
        for (int bits : new int[] {1, 3, 16, 16 + 2, 1 << 30, LEAST, LEAST + 2, -16, GREATEST - 4}) {
            due("edge(" + bits + ", 2)", x.edge(bits, 2), NONE);
        }
        Due.sentence("15: NONE as above: its own bit");
        due("its own", x.edge(4, 2), NONE);
        due("its own and another", x.edge(6, 2), NONE);
        due("another one's", x.edge(2, 2), 8 + EAST);
    }

    /** Panel 12 alone is long enough along x, and panel 11 is joined along x. */
    private static SheetFolder lastOfThirteen() {
        SheetFolder x = Parts.based(10, 10);
        for (int p = 0; p < 10; p++) {
            join(x, p, EAST, 0, 10, 10, UP);
        }
        join(x, 0, NORTH, 0, 10, 10, UP);
        join(x, 10, EAST, 0, 10, 80, UP);
        return x;
    }

    private static void order() {
        Due.sentence("16: How many bends the order has");
        due("a base alone", Parts.based(1, 1).order(), 0);
        due("two", Parts.channel(40).order(), 2);
        due("twelve", Parts.flanges(12).order(), 12);
        Due.sentence("16: NONE when there is no order");
        SheetFolder x = Parts.channel(40);
        x.gauge(101);
        due("no gauge edge", x.order(), NONE);
        SheetFolder y = Parts.based(100, 100);
        join(y, 0, EAST, 0, 60, 50, UP);
        join(y, 0, EAST, 40, 60, 50, UP);
        due("not clear", y.order(), NONE);
        Due.sentence("16: NONE when there is no base");
        due("order()", new SheetFolder().order(), NONE);
        Due.sentence("16: of the part as it is now");
        SheetFolder z = Parts.channel(120);
        Parts.dueSteps("at first", z, 2, 1);
        join(z, 0, NORTH, 0, 100, 10, UP);
        Parts.dueSteps("one more panel", z, 2, 1, 3);
        z.gauge(101);
        Parts.dueNoOrder("a longer gauge", z);
        z.gauge(100);
        Parts.dueSteps("a shorter gauge", z, 2, 1, 3);
        z.over();
        Parts.dueSteps("over", z, 2, 1, 3);
        z.base(100, 100);
        Parts.dueSteps("a new base", z);
        join(z, 0, EAST, 0, 100, 10, UP);
        Parts.dueSteps("a new panel", z, 1);
    }

    /** Six walls, 1 to 6, each with a return, 7 to 12, too deep to be turned after its wall; none is near a corner. */
    private static SheetFolder returns() {
        SheetFolder x = Parts.based(1000, 1000);
        for (int k = 0; k < 6; k++) {
            join(x, 0, k % 4, 300 + k / 4 * 300, 200, 100, UP);
        }
        for (int k = 0; k < 6; k++) {
            join(x, k + 1, k % 4, 0, 200, 101, UP);
        }
        return x;
    }

    private static void step() {
        Due.sentence("17: Bend i of the order");
        Parts.dueSteps("channel", Parts.channel(120), 2, 1);
        Parts.dueSteps("each return before its wall", returns(), 7, 1, 8, 2, 9, 3, 10, 4, 11, 5, 12, 6);
        Parts.dueSteps("twelve", Parts.flanges(12), 1, 2, 3, 4, 5, 6, 7, 8, 9, 10, 11, 12);
        SheetFolder x = Parts.channel(120);
        due("without order() before: 1", x.step(1), 1);
        due("without order() before: 0", x.step(0), 2);
        Due.sentence("17: NONE when there is none such");
        for (int i : new int[] {LEAST, -1, 2, 3, 12, 13, GREATEST}) {
            due("step(" + i + ")", x.step(i), NONE);
        }
        due("twelve: step(12)", Parts.flanges(12).step(12), NONE);
        due("a base alone", Parts.based(1, 1).step(0), NONE);
        due("without a base", new SheetFolder().step(0), NONE);
        x.gauge(101);
        Parts.dueNoOrder("no order", x);
    }

    private static void count() {
        Due.sentence("18: How many panels (what 0)");
        due("none", new SheetFolder().count(0), 0);
        due("a base", Parts.based(1, 1).count(0), 1);
        due("three", Parts.channel(40).count(0), 3);
        due("thirteen", Parts.flanges(12).count(0), 13);
        Due.sentence("18: from how many sets of folded bends an order goes on to all (1)");
        due("all of four", Parts.channel(50).count(1), 4);
        due("three of four", Parts.channel(51).count(1), 3);
        due("all of 4096", Parts.flanges(12).count(1), 4096);
        // Of a wall and its return none, the return or both may be folded, not the wall alone.
        due("three by three by ..", returns().count(1), 729);
        SheetFolder x = Parts.based(100, 100);
        join(x, 0, EAST, 0, 60, 50, UP);
        join(x, 0, EAST, 40, 60, 50, UP);
        join(x, 0, WEST, 0, 100, 10, UP);
        due("there is no order", x.order(), NONE);
        due("but one goes on from 1 and 2 folded, though nothing leads there", x.count(1), 2);
        Due.sentence("18: the last ones included");
        due("a base alone", Parts.based(1, 1).count(1), 1);
        SheetFolder y = Parts.channel(40);
        y.gauge(101);
        due("from all folded alone", y.count(1), 1);
        Due.sentence("18: 0 without a base");
        due("count(1)", new SheetFolder().count(1), 0);
        Due.sentence("18: NONE for others");
        for (int what : new int[] {LEAST, -1, 2, 3, GREATEST}) {
            due("count(" + what + ")", y.count(what), NONE);
            due("count(" + what + ") without a base", new SheetFolder().count(what), NONE);
        }
    }

    private static void check() {
        Due.sentence("19: Whether all panels are as large as in the plan, and each bend lies on both its sides: 1");
        due("no panels", new SheetFolder().check(), 1);
        due("a base", Parts.based(1, 1).check(), 1);
        due("twelve", Parts.flanges(12).check(), 1);
        SheetFolder x = Parts.corner();
        due("check()", x.check(), 1);
        x.over();
        due("over", x.check(), 1);
        x.deduction(400);
        due("without a flat pattern", x.check(), 1);
        SheetFolder y = Parts.based(100, 100);
        join(y, 0, EAST, 0, 60, 50, DOWN);
        join(y, 0, EAST, 40, 60, 50, DOWN);
        due("panels that meet", y.check(), 1);
    }
}
