/** Each promise by hand: ordinary inputs, the edges that the document names, and wrong inputs. */
public final class PromiseTest {
    private static final int NONE = SheetFolder.NONE;
    private static final int NOWHERE = SheetFolder.NOWHERE;
    private static final int LEAST = Integer.MIN_VALUE;
    private static final int GREATEST = Integer.MAX_VALUE;

    private PromiseTest() {
    }

    public static void main(String[] args) {
        newObject();
        base();
        panel();
        panelWithinItsSide();
        deduction();
        gauge();
        over();
        overFlatAndEdges();
        flatWithoutWidth();
        flatOverlap();
        wrongStays();
        flatOf();
        flatOfInsideOut();
        size();
        place();
        placeOnEachSide();
        placeWrong();
        meets();
        meetsAtAnEdge();
        moves();
        clearByBands();
        clearByPlacesAlong();
        clearOfTheOtherSide();
        clearWrong();
        edge();
        orderOtherThanNumbers();
        orderChangesWithThePart();
        noOrder();
        greatestPart();
        countWrong();
        check();
        Due.end();
    }

    private static void due(String call, long got, long want) {
        Due.due(call, got, want);
    }

    private static void duePlace(String name, SheetFolder x, int bits, int p, int... want) {
        for (int what = 0; what < 6; what++) {
            due(name + " place(" + bits + ", " + p + ", " + what + ")", x.place(bits, p, what), want[what]);
        }
    }

    private static void dueFlat(String name, SheetFolder x, int p, int... want) {
        for (int what = 0; what < 4; what++) {
            due(name + " flatOf(" + p + ", " + what + ")", x.flatOf(p, what), want[what]);
        }
    }

    private static void dueSteps(String name, SheetFolder x, int... want) {
        due(name + " order()", x.order(), want.length);
        for (int i = 0; i < want.length; i++) {
            due(name + " step(" + i + ")", x.step(i), want[i]);
        }
        due(name + " step after the last", x.step(want.length), NONE);
        due(name + " step(-1)", x.step(-1), NONE);
    }

    /** Panel 1 east of the base, up; panel 2 north of panel 1, down. */
    private static SheetFolder corner() {
        SheetFolder x = new SheetFolder();
        x.base(100, 80);
        x.panel(0, 0, 10, 50, 30, 1);
        x.panel(1, 1, 5, 20, 15, 0);
        return x;
    }

    /** A chain to the east: panel 1 50 deep, panel 2 as deep as is said, all up. */
    private static SheetFolder channel(int deep) {
        SheetFolder x = new SheetFolder();
        x.base(100, 100);
        x.panel(0, 0, 0, 100, 50, 1);
        x.panel(1, 0, 0, 100, deep, 1);
        return x;
    }

    private static void newObject() {
        SheetFolder x = new SheetFolder();
        due("new count(0)", x.count(0), 0);
        due("new count(1)", x.count(1), 0);
        due("new wrong(0)", x.wrong(0), NONE);
        due("new wrong(1)", x.wrong(1), NONE);
        due("new panel", x.panel(0, 0, 0, 1, 1, 1), NONE);
        due("new moves(0)", x.moves(0), NONE);
        due("new check()", x.check(), 1);
        due("NONE", SheetFolder.NONE, -1);
        due("NOWHERE", SheetFolder.NOWHERE, -1000000);
        x.base(100, 50);
        x.panel(0, 0, 0, 50, 10, 1);
        due("new: no deduction", x.size(0), 110);
    }

    private static void base() {
        SheetFolder x = new SheetFolder();
        due("base(2000, 2000)", x.base(2000, 2000), 1);
        due("base(1, 1)", x.base(1, 1), 1);
        duePlace("base", x, 0, 0, 0, 0, 0, 1, 1, 0);
        x.base(30, 40);
        x.panel(0, 0, 0, 10, 10, 1);
        due("base(0, 5)", x.base(0, 5), 0);
        due("base(5, 0)", x.base(5, 0), 0);
        due("base(2001, 5)", x.base(2001, 5), 0);
        due("base(5, 2001)", x.base(5, 2001), 0);
        due("base(LEAST, 5)", x.base(LEAST, 5), 0);
        due("base(5, GREATEST)", x.base(5, GREATEST), 0);
        due("refused bases change nothing: panels", x.count(0), 2);
        duePlace("refused bases", x, 0, 0, 0, 0, 0, 30, 40, 0);
        x.deduction(4);
        x.gauge(20);
        due("base(60, 70)", x.base(60, 70), 1);
        due("a new base: no other panel", x.count(0), 1);
        due("a new base: panel 1 is no more", x.place(0, 1, 0), NOWHERE);
        due("a new base: its sides have no bends", x.size(0), 60);
        due("a new base: panel is 1 again", x.panel(0, 0, 0, 10, 10, 1), 1);
        due("a new base keeps the deduction", x.size(0), 66);
        due("a new base keeps the gauge", x.edge(0, 1), 2);
    }

    private static void panel() {
        SheetFolder x = new SheetFolder();
        x.base(100, 80);
        due("panel no parent", x.panel(1, 0, 0, 10, 10, 1), NONE);
        due("panel parent -1", x.panel(-1, 0, 0, 10, 10, 1), NONE);
        due("panel parent GREATEST", x.panel(GREATEST, 0, 0, 10, 10, 1), NONE);
        due("panel side 4", x.panel(0, 4, 0, 10, 10, 1), NONE);
        due("panel side -1", x.panel(0, -1, 0, 10, 10, 1), NONE);
        due("panel up 2", x.panel(0, 0, 0, 10, 10, 2), NONE);
        due("panel up -1", x.panel(0, 0, 0, 10, 10, -1), NONE);
        due("panel 0 wide", x.panel(0, 0, 0, 0, 10, 1), NONE);
        due("panel 0 deep", x.panel(0, 0, 0, 10, 0, 1), NONE);
        due("panel 2001 deep", x.panel(0, 0, 0, 10, 2001, 1), NONE);
        due("refused panels are none", x.count(0), 1);
        due("panel 2000 deep", x.panel(0, 0, 0, 10, 2000, 1), 1);
        for (int side = 0; side < 4; side++) {
            x.base(100, 80);
            x.panel(0, side, 0, 80, 50, 1);
            int back = (side + 2) % 4;
            due("panel on the side it is joined by", x.panel(1, back, 0, 10, 10, 1), NONE);
            due("panel on the opposite side", x.panel(1, side, 0, 10, 10, 1), 2);
            due("panel on the side beside", x.panel(1, (side + 1) % 4, 0, 10, 10, 0), 3);
            due("second panel on a side", x.panel(1, side, 20, 10, 10, 1), 4);
        }
        x.base(100, 100);
        for (int p = 1; p < 13; p++) {
            due("panel " + p, x.panel(0, p % 4, p, 1, 1, 1), p);
        }
        due("panel 13", x.panel(0, 0, 50, 1, 1, 1), NONE);
        due("13 panels", x.count(0), 13);
    }

    private static void panelWithinItsSide() {
        int[] length = {80, 100, 80, 100};
        for (int side = 0; side < 4; side++) {
            SheetFolder x = new SheetFolder();
            x.base(100, 80);
            due("panel before its side", x.panel(0, side, -1, 10, 10, 1), NONE);
            due("panel beyond its side", x.panel(0, side, length[side] - 9, 10, 10, 1), NONE);
            due("panel too wide", x.panel(0, side, 0, length[side] + 1, 10, 1), NONE);
            due("panel whose end wraps around", x.panel(0, side, GREATEST, 1, 10, 1), NONE);
            due("panel LEAST", x.panel(0, side, LEAST, 10, 10, 1), NONE);
            due("panel GREATEST wide", x.panel(0, side, 1, GREATEST, 10, 1), NONE);
            due("panel as wide as its side", x.panel(0, side, 0, length[side], 10, 1), 1);
            due("panel at the end of its side", x.panel(0, side, length[side] - 10, 10, 10, 1), 2);
        }
        SheetFolder x = new SheetFolder();
        x.base(2000, 2000);
        due("panel 2000 wide", x.panel(0, 0, 0, 2000, 10, 1), 1);
        due("panel 2001 wide", x.panel(0, 0, 0, 2001, 10, 1), NONE);
    }

    private static void deduction() {
        SheetFolder x = new SheetFolder();
        due("deduction(400)", x.deduction(400), 1);
        due("deduction(0)", x.deduction(0), 1);
        due("deduction(6)", x.deduction(6), 1);
        due("deduction(402)", x.deduction(402), 0);
        due("deduction(401)", x.deduction(401), 0);
        due("deduction(5)", x.deduction(5), 0);
        due("deduction(-2)", x.deduction(-2), 0);
        due("deduction(LEAST)", x.deduction(LEAST), 0);
        due("deduction(GREATEST)", x.deduction(GREATEST), 0);
        x.base(100, 100);
        x.panel(0, 0, 0, 10, 50, 1);
        due("refused deductions change nothing", x.size(0), 144);
        x.deduction(0);
        due("deduction 0 again", x.size(0), 150);
    }

    private static void gauge() {
        SheetFolder x = new SheetFolder();
        x.base(80, 79);
        x.panel(0, 0, 0, 10, 10, 1);
        x.panel(0, 1, 0, 10, 10, 1);
        due("at first 80: 79 is too short", x.edge(0, 1), NONE);
        due("at first 80: 80 is long enough", x.edge(0, 2), 3);
        due("gauge(79)", x.gauge(79), 1);
        due("gauge 79", x.edge(0, 1), 2);
        due("gauge(0)", x.gauge(0), 0);
        due("gauge(-1)", x.gauge(-1), 0);
        due("gauge(4001)", x.gauge(4001), 0);
        due("gauge(LEAST)", x.gauge(LEAST), 0);
        due("refused gauges change nothing", x.edge(0, 1), 2);
        due("gauge(4000)", x.gauge(4000), 1);
        due("gauge 4000", x.edge(0, 1), NONE);
        due("gauge(1)", x.gauge(1), 1);
        due("gauge 1", x.edge(0, 1), 2);
    }

    private static void over() {
        SheetFolder x = new SheetFolder();
        due("over() without a base", x.over(), 0);
        x = corner();
        due("over()", x.over(), 1);
        duePlace("over", x, 0, 0, 0, 0, 0, 100, 80, 0);
        duePlace("over", x, 0, 1, -30, 10, 0, 0, 60, 0);
        duePlace("over", x, 0, 2, -25, 60, 0, -5, 75, 0);
        duePlace("over: down that was up", x, 2, 1, 0, 10, -30, 0, 60, 0);
        duePlace("over: up that was down", x, 4, 2, -25, 60, 0, -5, 60, 15);
        due("over: the base's west is no side for panel 1's", x.panel(1, 0, 0, 10, 10, 1), NONE);
        due("over: panel 1's west is", x.panel(1, 2, 0, 10, 10, 1), 3);
        duePlace("over, then joined", x, 0, 3, -40, 10, 0, -30, 20, 0);
        SheetFolder y = corner();
        y.over();
        due("over() twice", y.over(), 1);
        SheetFolder z = corner();
        for (int bits = 0; bits < 8; bits += 2) {
            for (int i = 0; i < 18; i++) {
                due("over twice is as before", y.place(bits, i / 6, i % 6), z.place(bits, i / 6, i % 6));
            }
        }
    }

    private static void overFlatAndEdges() {
        SheetFolder x = corner();
        x.deduction(10);
        x.gauge(50);
        due("before over edge", x.edge(0, 1), 2);
        x.over();
        dueFlat("over", x, 0, 25, 0, 120, 80);
        dueFlat("over", x, 1, 0, 10, 25, 55);
        dueFlat("over", x, 2, 5, 55, 25, 65);
        due("over edge", x.edge(0, 1), 0);
        due("over moves", x.moves(1), 1);
    }

    private static void flatWithoutWidth() {
        SheetFolder x = new SheetFolder();
        due("flat() without a base", x.flat(), NONE);
        x.base(20, 100);
        x.panel(0, 0, 0, 100, 50, 1);
        x.panel(0, 2, 0, 100, 50, 1);
        x.deduction(18);
        due("flat with 2 of the width left", x.flat(), 0);
        due("wrong(0) of a pattern", x.wrong(0), NONE);
        x.deduction(20);
        due("flat with no width left", x.flat(), 1);
        due("wrong(0) without width", x.wrong(0), 0);
        due("wrong(1) without width", x.wrong(1), NONE);
        x.deduction(100);
        due("flat with less than no width", x.flat(), 1);
        due("wrong(0) is the first", x.wrong(0), 0);
        x.base(200, 200);
        x.panel(0, 0, 0, 50, 60, 1);
        x.panel(0, 1, 0, 50, 10, 1);
        x.panel(0, 3, 0, 50, 10, 1);
        x.deduction(20);
        due("flat with no height left", x.flat(), 1);
        due("wrong(0) without height", x.wrong(0), 2);
    }

    private static void flatOverlap() {
        SheetFolder x = new SheetFolder();
        x.base(100, 100);
        x.panel(0, 0, 0, 100, 50, 1);
        x.panel(0, 1, 0, 100, 50, 1);
        x.panel(1, 1, 0, 50, 20, 1);
        due("flat where panels touch", x.flat(), 0);
        x.panel(2, 0, 0, 50, 30, 1);
        due("flat where panels overlap", x.flat(), 2);
        due("wrong(0) of a pair", x.wrong(0), 3);
        due("wrong(1) of a pair", x.wrong(1), 4);
        x.panel(0, 1, 0, 10, 10, 0);
        due("flat: the first pair", x.flat(), 2);
        due("wrong(0) of the first pair", x.wrong(0), 2);
        due("wrong(1) of the first pair", x.wrong(1), 5);
        x.deduction(20);
        due("flat: no width comes before a pair", x.flat(), 1);
        due("wrong(0): panel 5 has no height", x.wrong(0), 5);
        due("wrong(1): no pair", x.wrong(1), NONE);
        x.deduction(0);
        x.base(100, 100);
        x.panel(0, 0, 0, 60, 50, 1);
        x.panel(0, 0, 60, 40, 50, 1);
        due("flat with two panels on a side", x.flat(), 0);
        x.panel(0, 0, 59, 5, 50, 1);
        due("flat with a pair of 1", x.flat(), 2);
        due("wrong(0) of 1, 3", x.wrong(0), 1);
        due("wrong(1) of 1, 3", x.wrong(1), 3);
    }

    private static void wrongStays() {
        SheetFolder x = new SheetFolder();
        x.base(100, 100);
        x.panel(0, 0, 0, 60, 50, 1);
        x.panel(0, 0, 50, 40, 50, 1);
        due("wrong(0) before flat()", x.wrong(0), NONE);
        x.flat();
        x.base(10, 10);
        due("wrong(0) of the latest flat()", x.wrong(0), 1);
        due("wrong(1) of the latest flat()", x.wrong(1), 2);
        due("wrong(2)", x.wrong(2), NONE);
        due("wrong(-1)", x.wrong(-1), NONE);
        due("wrong(LEAST)", x.wrong(LEAST), NONE);
        x.flat();
        due("wrong(0) of a later flat()", x.wrong(0), NONE);
        due("wrong(1) of a later flat()", x.wrong(1), NONE);
    }

    private static void flatOf() {
        SheetFolder x = corner();
        dueFlat("no deduction", x, 2, 105, 60, 125, 75);
        x.deduction(10);
        dueFlat("deduction 10", x, 0, 0, 0, 95, 80);
        dueFlat("deduction 10", x, 1, 95, 10, 120, 55);
        dueFlat("deduction 10", x, 2, 95, 55, 115, 65);
        x.panel(0, 2, 0, 20, 40, 1);
        x.panel(0, 3, 0, 20, 30, 1);
        x.panel(0, 3, 30, 20, 30, 1);
        dueFlat("west and south", x, 0, 35, 25, 125, 100);
        dueFlat("west and south", x, 3, 0, 20, 35, 40);
        dueFlat("west and south", x, 4, 30, 0, 50, 25);
        dueFlat("half once a side, however many bends", x, 5, 60, 0, 80, 25);
        due("flatOf no panel", x.flatOf(6, 0), NOWHERE);
        due("flatOf(-1, 0)", x.flatOf(-1, 0), NOWHERE);
        due("flatOf(0, 4)", x.flatOf(0, 4), NOWHERE);
        due("flatOf(0, -1)", x.flatOf(0, -1), NOWHERE);
        due("flatOf(GREATEST, LEAST)", x.flatOf(GREATEST, LEAST), NOWHERE);
        due("flatOf without a base", new SheetFolder().flatOf(0, 0), NOWHERE);
        x.base(7, 9);
        dueFlat("base alone", x, 0, 0, 0, 7, 9);
    }

    /** The sides' own places are told where a panel has less than nothing left: its least x is that of its west. */
    private static void flatOfInsideOut() {
        SheetFolder x = new SheetFolder();
        x.base(100, 100);
        x.panel(0, 0, 0, 100, 60, 1);
        x.panel(1, 0, 0, 100, 50, 1);
        x.deduction(80);
        due("inside out flat()", x.flat(), 1);
        due("inside out wrong(0)", x.wrong(0), 1);
        dueFlat("inside out", x, 0, 0, 0, 60, 100);
        dueFlat("inside out", x, 1, 60, 0, 40, 100);
        dueFlat("inside out", x, 2, 40, 0, 50, 100);
        due("inside out size(0)", x.size(0), 60);
    }

    private static void size() {
        SheetFolder x = corner();
        due("size(0)", x.size(0), 130);
        due("size(1)", x.size(1), 80);
        x.deduction(10);
        due("size(0) less the deduction", x.size(0), 120);
        x.panel(0, 3, 0, 20, 30, 1);
        due("size(1) with a panel south", x.size(1), 100);
        due("size(2)", x.size(2), NOWHERE);
        due("size(-1)", x.size(-1), NOWHERE);
        due("size(GREATEST)", x.size(GREATEST), NOWHERE);
        due("size without a base", new SheetFolder().size(0), NOWHERE);
    }

    private static void place() {
        SheetFolder x = corner();
        x.deduction(20);
        duePlace("no bend", x, 0, 1, 100, 10, 0, 130, 60, 0);
        duePlace("no bend", x, 0, 2, 105, 60, 0, 125, 75, 0);
        duePlace("bend 1", x, 2, 0, 0, 0, 0, 100, 80, 0);
        duePlace("bend 1", x, 2, 1, 100, 10, 0, 100, 60, 30);
        duePlace("bend 1", x, 2, 2, 100, 60, 5, 100, 75, 25);
        duePlace("bend 2", x, 4, 1, 100, 10, 0, 130, 60, 0);
        duePlace("bend 2", x, 4, 2, 105, 60, -15, 125, 60, 0);
        duePlace("both", x, 6, 2, 100, 60, 5, 115, 60, 25);
    }

    private static void placeOnEachSide() {
        SheetFolder x = new SheetFolder();
        x.base(100, 80);
        for (int side = 0; side < 4; side++) {
            x.panel(0, side, 10, 20, 30, 1);
        }
        for (int side = 0; side < 4; side++) {
            x.panel(side + 1, side, 5, 10, 7, side % 2);
        }
        duePlace("east", x, 30, 1, 100, 10, 0, 100, 30, 30);
        duePlace("north", x, 30, 2, 10, 80, 0, 30, 80, 30);
        duePlace("west", x, 30, 3, 0, 10, 0, 0, 30, 30);
        duePlace("south", x, 30, 4, 10, 0, 0, 30, 0, 30);
        duePlace("east, east down", x, 62, 5, 100, 15, 30, 107, 25, 30);
        duePlace("north, north up", x, 94, 6, 15, 73, 30, 25, 80, 30);
        duePlace("west, west down", x, 158, 7, -7, 15, 30, 0, 25, 30);
        duePlace("south, south up", x, 286, 8, 15, 0, 30, 25, 7, 30);
        duePlace("east goes on", x, 30, 5, 100, 15, 30, 100, 25, 37);
    }

    private static void placeWrong() {
        SheetFolder x = corner();
        due("place no panel", x.place(0, 3, 0), NOWHERE);
        due("place panel -1", x.place(0, -1, 0), NOWHERE);
        due("place what 6", x.place(0, 0, 6), NOWHERE);
        due("place what -1", x.place(0, 0, -1), NOWHERE);
        due("place bit 0", x.place(1, 0, 0), NOWHERE);
        due("place bit 3", x.place(8, 0, 0), NOWHERE);
        due("place bit 31", x.place(LEAST, 0, 0), NOWHERE);
        due("place all bits", x.place(-1, 0, 0), NOWHERE);
        due("place without a base", new SheetFolder().place(0, 0, 0), NOWHERE);
    }

    private static void meets() {
        SheetFolder x = new SheetFolder();
        due("meets without a base", x.meets(0), NONE);
        x.base(100, 100);
        due("meets alone", x.meets(0), 0);
        x.panel(0, 0, 0, 100, 50, 1);
        x.panel(1, 1, 0, 50, 100, 1);
        x.panel(2, 2, 0, 100, 100, 1);
        x.panel(3, 3, 0, 50, 20, 1);
        due("meets: 4 on the base", x.meets(0), 1);
        due("meets: 4 stands on the base's edge", x.meets(16), 0);
        due("meets bit 0", x.meets(1), NONE);
        due("meets bit 5", x.meets(32), NONE);
        due("meets bits -1", x.meets(-1), NONE);
        due("meets LEAST", x.meets(LEAST), NONE);
    }

    private static void meetsAtAnEdge() {
        int[] deep = {99, 100, 101};
        int[] want = {0, 0, 1};
        for (int i = 0; i < 3; i++) {
            SheetFolder x = new SheetFolder();
            x.base(100, 100);
            x.panel(0, 0, 0, 100, 60, 1);
            x.panel(1, 0, 0, 100, deep[i], 1);
            x.panel(0, 2, 20, 50, 60, 1);
            due("meets with an edge inside a panel, deep " + deep[i], x.meets(14), want[i]);
            x.panel(3, 2, 0, 50, 30, 1);
            due("meets in one plane, deep " + deep[i], x.meets(30), want[i] + 1);
        }
        SheetFolder x = new SheetFolder();
        x.base(100, 100);
        x.panel(0, 0, 0, 60, 50, 1);
        x.panel(0, 0, 40, 60, 50, 1);
        due("meets: both stand", x.meets(6), 1);
        due("meets: both lie", x.meets(0), 1);
        due("meets: one stands on a common edge", x.meets(2), 0);
    }

    private static void moves() {
        SheetFolder x = new SheetFolder();
        x.base(100, 100);
        due("moves of the base", x.moves(0), NONE);
        due("moves of no bend", x.moves(1), NONE);
        x.panel(0, 0, 0, 100, 50, 1);
        due("moves: as many", x.moves(1), 2);
        x.panel(1, 0, 0, 100, 50, 1);
        x.panel(2, 1, 0, 10, 50, 1);
        due("moves: the base is less", x.moves(1), 1);
        due("moves: two and two", x.moves(2), 12);
        due("moves: the last", x.moves(3), 8);
        x.panel(0, 1, 0, 10, 50, 1);
        due("moves: two others are less", x.moves(1), 17);
        due("moves: two of five", x.moves(2), 12);
        due("moves: another branch", x.moves(4), 16);
        due("moves(-1)", x.moves(-1), NONE);
        due("moves(5)", x.moves(5), NONE);
        due("moves(GREATEST)", x.moves(GREATEST), NONE);
    }

    private static void clearByBands() {
        due("clear: 40 deep goes by the base", channel(40).clear(2, 2), 1);
        due("clear: 50 deep just touches it", channel(50).clear(2, 2), 1);
        due("clear: 51 deep sweeps through it", channel(51).clear(2, 2), 0);
        due("clear: flat the same is free", channel(51).clear(0, 2), 1);
        SheetFolder x = new SheetFolder();
        x.base(100, 100);
        x.panel(0, 0, 0, 100, 50, 1);
        x.panel(1, 0, 0, 100, 80, 0);
        due("clear: down, away from the base", x.clear(2, 2), 1);
    }

    private static void clearByPlacesAlong() {
        int[] offset = {49, 50};
        int[] want = {0, 1};
        for (int i = 0; i < 2; i++) {
            SheetFolder x = new SheetFolder();
            x.base(100, 100);
            x.panel(0, 0, 0, 50, 30, 1);
            x.panel(0, 0, offset[i], 50, 30, 1);
            due("clear: side by side from " + offset[i], x.clear(0, 1), want[i]);
        }
        int[] deep = {99, 100, 101};
        int[] wantSingle = {1, 1, 0};
        for (int i = 0; i < 3; i++) {
            SheetFolder x = new SheetFolder();
            x.base(100, 100);
            x.panel(0, 0, 0, 100, 60, 1);
            x.panel(1, 1, 0, 60, deep[i], 1);
            x.panel(0, 1, 0, 100, 100, 1);
            x.panel(3, 1, 0, 100, 70, 1);
            due("clear: a single place in a range, deep " + deep[i], x.clear(16, 1), wantSingle[i]);
            due("clear: twice the same single place", x.clear(12, 1), 0);
            due("clear: two other single places", x.clear(20, 1), 1);
        }
    }

    /** The chain's end is the greater part, so that the base turns against it. */
    private static void clearOfTheOtherSide() {
        SheetFolder x = new SheetFolder();
        x.base(100, 100);
        x.panel(0, 0, 0, 100, 50, 1);
        x.panel(1, 0, 0, 100, 30, 1);
        x.panel(2, 0, 0, 100, 70, 1);
        due("the base moves", x.moves(1), 1);
        due("clear: the base turns, all flat", x.clear(0, 1), 1);
        due("clear: the base turns into quadrant 1", x.clear(12, 1), 0);
        due("clear: panel 2 only in quadrant 0", x.clear(4, 1), 1);
        SheetFolder y = new SheetFolder();
        y.base(100, 100);
        y.panel(0, 0, 0, 100, 50, 0);
        y.panel(1, 0, 0, 100, 30, 1);
        y.panel(2, 0, 0, 100, 40, 1);
        due("clear: the base turns away from what is in quadrant 3", y.clear(12, 1), 1);
        y.base(100, 100);
        y.panel(0, 0, 0, 100, 50, 0);
        y.panel(1, 0, 0, 100, 30, 1);
        y.panel(2, 0, 0, 100, 70, 1);
        due("clear: what is in the base's own quadrant is hit", y.clear(12, 1), 0);
    }

    private static void clearWrong() {
        SheetFolder x = channel(40);
        due("clear its own bit", x.clear(4, 2), NONE);
        due("clear bit 0", x.clear(1, 2), NONE);
        due("clear bit 3", x.clear(8, 2), NONE);
        due("clear bits -1", x.clear(-1, 2), NONE);
        due("clear LEAST", x.clear(LEAST, 2), NONE);
        due("clear bend 0", x.clear(0, 0), NONE);
        due("clear bend 3", x.clear(0, 3), NONE);
        due("clear bend -1", x.clear(0, -1), NONE);
        due("clear bend 33", x.clear(0, 33), NONE);
        due("edge its own bit", x.edge(4, 2), NONE);
        due("edge bit 0", x.edge(1, 2), NONE);
        due("edge bit 3", x.edge(8, 2), NONE);
        due("edge bend 0", x.edge(0, 0), NONE);
        due("edge bend 3", x.edge(0, 3), NONE);
        due("edge bend 34", x.edge(0, 34), NONE);
        due("clear without a base", new SheetFolder().clear(0, 1), NONE);
        due("edge without a base", new SheetFolder().edge(0, 1), NONE);
    }

    private static void edge() {
        SheetFolder x = new SheetFolder();
        x.base(100, 90);
        x.panel(0, 0, 0, 90, 85, 1);
        due("edge of the base, west", x.edge(0, 1), 2);
        x.panel(0, 2, 0, 10, 10, 1);
        due("a side with a bend is not free", x.edge(0, 1), 4);
        x.panel(1, 0, 0, 90, 20, 1);
        due("nor the child's side to its parent", x.edge(0, 1), 12);
        due("edge across, of the base", x.edge(0, 2), 12);
        x.panel(0, 1, 0, 10, 10, 1);
        x.panel(0, 3, 0, 10, 10, 1);
        due("edge along x, of panel 1, 85 long", x.edge(0, 4), 5);
        due("edge along x, panel 1 stands", x.edge(2, 4), NONE);
        x.gauge(86);
        due("85 is too short", x.edge(0, 4), NONE);
        x.gauge(85);
        due("85 is enough", x.edge(0, 4), 5);
        x.gauge(10);
        due("edge of the least panel", x.edge(2, 4), 9);
        due("edge of the least panel along y", x.edge(2, 3), 10);
        x.panel(1, 1, 0, 10, 10, 1);
        due("edge along z", x.edge(2, 6), 7);
    }

    private static void orderOtherThanNumbers() {
        SheetFolder x = channel(120);
        dueSteps("channel 120", x, 2, 1);
        due("channel 120 count(1)", x.count(1), 3);
        SheetFolder y = channel(50);
        due("step before order()", y.step(0), 1);
        dueSteps("channel 50", y, 1, 2);
        due("channel 50 count(1)", y.count(1), 4);
        SheetFolder z = new SheetFolder();
        due("order without a base", z.order(), NONE);
        due("step without a base", z.step(0), NONE);
        z.base(1, 1);
        dueSteps("base alone", z);
        due("base alone count(1)", z.count(1), 1);
        due("step(LEAST)", y.step(LEAST), NONE);
        due("step(GREATEST)", y.step(GREATEST), NONE);
    }

    private static void orderChangesWithThePart() {
        SheetFolder x = channel(120);
        due("first order", x.step(0), 2);
        x.over();
        dueSteps("over", x, 2, 1);
        x.panel(0, 1, 0, 100, 10, 1);
        due("one more bend", x.order(), 3);
        due("one more bend step(0)", x.step(0), 2);
        x.gauge(101);
        due("a longer gauge", x.order(), NONE);
        due("a longer gauge step(0)", x.step(0), NONE);
        x.gauge(100);
        due("gauge 100", x.order(), 3);
        x.base(100, 100);
        dueSteps("a new base", x);
        due("a new base count(1)", x.count(1), 1);
        x.panel(0, 0, 0, 100, 10, 1);
        dueSteps("a new panel", x, 1);
    }

    private static void noOrder() {
        SheetFolder x = channel(40);
        x.gauge(101);
        due("no gauge edge: order", x.order(), NONE);
        due("no gauge edge: step", x.step(0), NONE);
        due("no gauge edge: the full set alone", x.count(1), 1);
        SheetFolder y = new SheetFolder();
        y.base(100, 100);
        y.panel(0, 0, 0, 60, 50, 1);
        y.panel(0, 0, 40, 60, 50, 1);
        due("not clear: first", y.clear(0, 1), 0);
        due("not clear: order", y.order(), NONE);
        due("not clear: count(1)", y.count(1), 1);
        y.base(100, 100);
        dueSteps("a new base after no order", y);
        due("a new base after no order: count(1)", y.count(1), 1);
    }

    private static void greatestPart() {
        SheetFolder x = new SheetFolder();
        x.base(1000, 1000);
        for (int k = 0; k < 12; k++) {
            x.panel(0, k % 4, k / 4 * 300, 200, 100, 1);
        }
        dueSteps("12 flanges", x, 1, 2, 3, 4, 5, 6, 7, 8, 9, 10, 11, 12);
        due("12 flanges count(1)", x.count(1), 4096);
        due("12 flanges count(0)", x.count(0), 13);
        due("12 flanges all folded", x.meets(8190), 0);
        due("12 flanges bit 13", x.meets(8192), NONE);
        due("12 flanges flat", x.flat(), 0);
        due("12 flanges check()", x.check(), 1);
        due("12 flanges over()", x.over(), 1);
        dueSteps("12 flanges over", x, 1, 2, 3, 4, 5, 6, 7, 8, 9, 10, 11, 12);
        x.gauge(1001);
        due("12 flanges edge", x.edge(0, 12), NONE);
        x.gauge(80);
        x.base(2000, 2000);
        for (int k = 0; k < 12; k++) {
            x.panel(k, 0, 0, 2000, 2000, 1);
        }
        duePlace("a long chain", x, 0, 12, 24000, 0, 0, 26000, 2000, 0);
        due("a long chain clear", x.clear(0, 1), 1);
        due("a long chain moves", x.moves(7), 8064);
        due("a long chain rolled up", x.place(8190, 12, 3), 2000);
        x.deduction(400);
        due("a long chain flat", x.size(0), 26000 - 12 * 400);
    }

    private static void countWrong() {
        SheetFolder x = channel(40);
        due("count(0)", x.count(0), 3);
        due("count(2)", x.count(2), NONE);
        due("count(-1)", x.count(-1), NONE);
        due("count(LEAST)", x.count(LEAST), NONE);
        due("count(2) without a base", new SheetFolder().count(2), NONE);
    }

    private static void check() {
        SheetFolder x = corner();
        due("check()", x.check(), 1);
        x.over();
        due("check() over", x.check(), 1);
        x.deduction(400);
        due("check() without a flat pattern", x.check(), 1);
    }
}
