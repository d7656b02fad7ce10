/**
 * The sentences of 'Terms' that name a boundary, one test each, on both sides of it: what panels are and where they
 * lie, flat and folded, when they meet, gauge edges and orders. TurnTest has the sentences about a turn.
 */
public final class TermsTest {
    private static final int NONE = Parts.NONE;
    private static final int EAST = Parts.EAST;
    private static final int NORTH = Parts.NORTH;
    private static final int WEST = Parts.WEST;
    private static final int SOUTH = Parts.SOUTH;
    private static final int UP = Parts.UP;
    private static final int DOWN = Parts.DOWN;

    private TermsTest() {
    }

    public static void main(String[] args) {
        Due.run(TermsTest::atMostThirteen, TermsTest::planOfTheBase, TermsTest::offsetFromTheLeastPlace,
                TermsTest::bendsFromOneOn, TermsTest::freeSides, TermsTest::halfAtEachSideWithABend,
                TermsTest::nearerByTheWhole, TermsTest::furtherOnComesAlong, TermsTest::foldedByBits,
                TermsTest::notFoldedGoesOn, TermsTest::quarterTurns, TermsTest::normalTurnsToo,
                TermsTest::rightHanded, TermsTest::noDeductionInSpace, TermsTest::meetOnlyAtEdges,
                TermsTest::meetWithAnEdgeInside, TermsTest::meetInOnePlane, TermsTest::gaugeAtLeastSoLong,
                TermsTest::gaugeOnFreeSides, TermsTest::gaugeParallelThen, TermsTest::gaugeOfTheLeast,
                TermsTest::orderOfAllBends, TermsTest::orderEachTurnClear, TermsTest::orderEachWithAnEdge,
                TermsTest::orderThoseBeforeFolded, TermsTest::orderOfTheLesserBends, TermsTest::constants);
        Due.end();
    }

    private static void due(String call, long got, long want) {
        Due.due(call, got, want);
    }

    private static void atMostThirteen() {
        Due.sentence("PANELS are numbered from 0, at most 13");
        SheetFolder x = Parts.based(1000, 1000);
        due("the base is 0", x.count(0), 1);
        due("panel 0 has a place", x.place(0, 0, 3), 1000);
        for (int p = 1; p < 13; p++) {
            due("panel " + p, x.panel(0, EAST, 0, 10, 10, UP), p);
        }
        due("the fourteenth", x.panel(0, EAST, 0, 10, 10, UP), NONE);
        due("panels", x.count(0), 13);
        due("panel 12 has a place", x.place(0, 12, 3), 1010);
        due("panel 13 has none", x.place(0, 13, 3), Parts.NOWHERE);
    }

    private static void planOfTheBase() {
        Due.sentence("Panel 0 has x from 0 to its width and y from 0 to its height");
        Parts.duePlace("base", Parts.based(7, 9), 0, 0, 0, 0, 0, 7, 9, 0);
        Parts.duePlace("greatest base", Parts.based(2000, 1999), 0, 0, 0, 0, 0, 2000, 1999, 0);
    }

    private static void offsetFromTheLeastPlace() {
        Due.sentence("It begins at an OFFSET from the side's least place, is so WIDE along it, so DEEP away from it");
        SheetFolder x = Parts.based(100, 80);
        join(x, 0, EAST, 10, 20, 5, UP);
        join(x, 0, NORTH, 10, 20, 5, UP);
        join(x, 0, WEST, 10, 20, 5, UP);
        join(x, 0, SOUTH, 10, 20, 5, UP);
        Parts.duePlace("east", x, 0, 1, 100, 10, 0, 105, 30, 0);
        Parts.duePlace("north", x, 0, 2, 10, 80, 0, 30, 85, 0);
        Parts.duePlace("west", x, 0, 3, -5, 10, 0, 0, 30, 0);
        Parts.duePlace("south", x, 0, 4, 10, -5, 0, 30, 0, 0);
        join(x, 3, NORTH, 1, 2, 3, UP);
        join(x, 4, WEST, 1, 2, 3, UP);
        Parts.duePlace("north of west", x, 0, 5, -4, 30, 0, -2, 33, 0);
        Parts.duePlace("west of south", x, 0, 6, 7, -4, 0, 10, -2, 0);
    }

    private static int join(SheetFolder x, int parent, int side, int offset, int wide, int deep, int up) {
        return Parts.join(x, parent, side, offset, wide, deep, up);
    }

    private static void bendsFromOneOn() {
        Due.sentence("BEND k joins panel k (1 and more) to its parent");
        SheetFolder x = Parts.channel(40);
        due("bend 0 moves nothing", x.moves(0), NONE);
        due("bend 0 is no bit", x.meets(1), NONE);
        due("bend 1", x.meets(2), 0);
        due("bend 2 is the last", x.meets(4), 0);
        due("bend 3", x.meets(8), NONE);
    }

    private static void freeSides() {
        Due.sentence("FREE sides of a panel are those without a bend");
        for (int side = 0; side < 4; side++) {
            SheetFolder x = Parts.based(100, 100);
            int opposite = (side + 2) % 4;
            join(x, 0, side, 40, 10, 90, UP);
            int beside = Math.min((side + 1) % 4, (side + 3) % 4);
            due("along side " + side + ", of the base", x.edge(0, 1), opposite);
            join(x, 0, opposite, 0, 1, 1, UP);
            due("along side " + side + ", none left", x.edge(0, 1), NONE);
            join(x, 0, beside, 40, 10, 10, UP);
            due("across side " + side + ", the other one of the base", x.edge(0, 3), (beside + 2) % 4);
            join(x, 0, (beside + 2) % 4, 40, 10, 10, UP);
            due("across side " + side + ", of panel 1", x.edge(0, 3), 4 + beside);
            SheetFolder y = Parts.based(100, 100);
            join(y, 0, side, 0, 90, 10, UP);
            join(y, 0, opposite, 0, 1, 1, UP);
            due("side " + side + " of panel 1", y.edge(0, 1), 4 + side);
            join(y, 1, side, 0, 1, 1, UP);
            due("not the side by which panel 1 is joined itself", y.edge(0, 1), NONE);
        }
    }

    private static void halfAtEachSideWithABend() {
        Due.sentence("Half the DEDUCTION is taken off each panel at each of its sides that has a bend");
        SheetFolder x = Parts.based(100, 80);
        x.deduction(10);
        Parts.dueFlat("no bend", x, 0, 0, 0, 100, 80);
        join(x, 0, EAST, 0, 20, 30, UP);
        Parts.dueFlat("east", x, 0, 0, 0, 95, 80);
        Parts.dueFlat("at its bend alone", x, 1, 95, 0, 120, 20);
        join(x, 0, EAST, 30, 20, 30, DOWN);
        Parts.dueFlat("once a side, though it has two bends", x, 0, 0, 0, 95, 80);
        join(x, 0, NORTH, 0, 20, 30, UP);
        Parts.dueFlat("east and north", x, 0, 0, 0, 95, 75);
        join(x, 0, WEST, 0, 20, 30, UP);
        Parts.dueFlat("and west", x, 0, 25, 0, 115, 75);
        join(x, 0, SOUTH, 0, 20, 30, UP);
        Parts.dueFlat("and south", x, 0, 25, 25, 115, 95);
    }

    private static void nearerByTheWhole() {
        Due.sentence("A panel comes nearer to its parent by the whole deduction, away from that side's outside");
        int[][] base = {{0, 0, 95, 80}, {0, 0, 100, 75}, {25, 0, 120, 80}, {0, 25, 100, 100}};
        int[][] flange = {{95, 10, 120, 30}, {10, 75, 30, 100}, {0, 10, 25, 30}, {10, 0, 30, 25}};
        for (int side = 0; side < 4; side++) {
            SheetFolder x = Parts.based(100, 80);
            x.deduction(10);
            join(x, 0, side, 10, 20, 30, UP);
            Parts.dueFlat("side " + side, x, 0, base[side]);
            Parts.dueFlat("side " + side, x, 1, flange[side]);
        }
    }

    private static void furtherOnComesAlong() {
        Due.sentence("And all that are joined to it further on");
        SheetFolder x = Parts.based(100, 80);
        x.deduction(10);
        join(x, 0, EAST, 0, 80, 30, UP);
        join(x, 1, EAST, 0, 80, 30, UP);
        join(x, 2, NORTH, 0, 30, 30, UP);
        Parts.dueFlat("joined to the base", x, 1, 95, 0, 115, 80);
        Parts.dueFlat("further on", x, 2, 115, 0, 140, 75);
        Parts.dueFlat("last", x, 3, 110, 75, 140, 100);
        SheetFolder y = Parts.based(100, 80);
        y.deduction(10);
        join(y, 0, SOUTH, 0, 100, 30, UP);
        join(y, 1, SOUTH, 0, 100, 30, UP);
        join(y, 2, WEST, 0, 30, 30, UP);
        Parts.dueFlat("southward, the base", y, 0, 20, 45, 120, 120);
        Parts.dueFlat("southward, joined to it", y, 1, 20, 25, 120, 45);
        Parts.dueFlat("southward, further on", y, 2, 25, 0, 120, 25);
        Parts.dueFlat("southward, last", y, 3, 0, 0, 25, 30);
    }

    private static void foldedByBits() {
        Due.sentence("Some bends are folded, by bits (bit k for bend k)");
        SheetFolder x = Parts.channel(40);
        Parts.duePlace("none", x, 0, 2, 150, 0, 0, 190, 100, 0);
        Parts.duePlace("bend 1", x, 2, 2, 100, 0, 50, 100, 100, 90);
        Parts.duePlace("bend 2", x, 4, 2, 150, 0, 0, 150, 100, 40);
        Parts.duePlace("both", x, 6, 2, 60, 0, 50, 100, 100, 50);
        for (int bits = 0; bits < 8; bits += 2) {
            Parts.duePlace("panel 0 lies as in the plan", x, bits, 0, 0, 0, 0, 100, 100, 0);
        }
    }

    private static void notFoldedGoesOn() {
        Due.sentence("A panel whose bend is not folded goes on in its parent's plane as in the plan");
        SheetFolder x = Parts.corner();
        Parts.duePlace("as in the plan", x, 0, 2, 105, 60, 0, 125, 75, 0);
        Parts.duePlace("in its parent's plane", x, 2, 2, 100, 60, 5, 100, 75, 25);
    }

    private static void quarterTurns() {
        Due.sentence("Folded up, what was away from the side stands where its parent's NORMAL leads (down: against)");
        int[][] up = {{100, 10, 0, 100, 30, 30}, {10, 80, 0, 30, 80, 30}, {0, 10, 0, 0, 30, 30}, {10, 0, 0, 30, 0, 30}};
        for (int side = 0; side < 4; side++) {
            int[] down = up[side].clone();
            down[2] = -30;
            down[5] = 0;
            SheetFolder x = Parts.based(100, 80);
            join(x, 0, side, 10, 20, 30, UP);
            Parts.duePlace("up, side " + side, x, 2, 1, up[side]);
            SheetFolder y = Parts.based(100, 80);
            join(y, 0, side, 10, 20, 30, DOWN);
            Parts.duePlace("down, side " + side, y, 2, 1, down);
        }
    }

    private static void normalTurnsToo() {
        Due.sentence("The normal of panel 0 is z, and is turned with each panel");
        int[] first = {UP, UP, DOWN, DOWN};
        int[] second = {UP, DOWN, UP, DOWN};
        int[][] want = {{60, 0, 30, 100, 80, 30}, {100, 0, 30, 140, 80, 30},
                {100, 0, -30, 140, 80, -30}, {60, 0, -30, 100, 80, -30}};
        for (int i = 0; i < 4; i++) {
            SheetFolder x = Parts.based(100, 80);
            join(x, 0, EAST, 0, 80, 30, first[i]);
            join(x, 1, EAST, 0, 80, 40, second[i]);
            Parts.duePlace("up " + first[i] + ", then up " + second[i], x, 6, 2, want[i]);
        }
        SheetFolder y = Parts.based(100, 80);
        join(y, 0, EAST, 0, 80, 30, UP);
        join(y, 1, EAST, 0, 80, 40, UP);
        join(y, 2, EAST, 0, 80, 10, UP);
        Parts.duePlace("three times up leads to the base again", y, 14, 3, 60, 0, 20, 60, 80, 30);
        join(y, 1, NORTH, 0, 30, 20, UP);
        Parts.duePlace("north of what stands, up", y, 18, 4, 80, 80, 0, 100, 80, 30);
    }

    private static void rightHanded() {
        Due.sentence("x, y, z are right-handed");
        SheetFolder x = Parts.based(100, 80);
        join(x, 0, NORTH, 0, 100, 30, UP);
        join(x, 1, EAST, 0, 30, 20, UP);
        join(x, 1, WEST, 0, 30, 20, DOWN);
        // With y turned to z, z is turned to -y, and x stays.
        Parts.duePlace("up leads to -y", x, 6, 2, 100, 60, 0, 100, 80, 30);
        Parts.duePlace("down leads to y", x, 10, 3, 0, 80, 0, 0, 100, 30);
    }

    private static void noDeductionInSpace() {
        Due.sentence("No deduction is taken off here");
        SheetFolder x = Parts.channel(51);
        x.deduction(400);
        Parts.duePlace("flat", x, 0, 2, 150, 0, 0, 201, 100, 0);
        Parts.duePlace("folded", x, 6, 2, 49, 0, 50, 100, 100, 50);
        due("clear", x.clear(2, 2), 0);
        due("edge", x.edge(0, 1), 2);
        Parts.dueSteps("order", x, 2, 1);
        due("check", x.check(), 1);
        SheetFolder y = Parts.based(100, 100);
        join(y, 0, EAST, 0, 60, 50, UP);
        join(y, 0, EAST, 59, 41, 50, UP);
        y.deduction(400);
        due("meets", y.meets(0), 1);
    }

    private static void meetOnlyAtEdges() {
        Due.sentence("Two panels MEET, if some point of one that is not on its edges is a point of the other one");
        SheetFolder x = Parts.based(100, 100);
        join(x, 0, EAST, 0, 100, 50, UP);
        join(x, 0, NORTH, 0, 100, 50, UP);
        due("two edges of a box", x.meets(6), 0);
        due("a corner alone", x.meets(0), 0);
        SheetFolder y = Parts.based(100, 100);
        join(y, 0, EAST, 0, 50, 50, UP);
        join(y, 0, EAST, 50, 50, 50, UP);
        due("an edge in one plane", y.meets(0), 0);
        due("an edge in one plane, standing", y.meets(6), 0);
        due("one lies, one stands: a corner", y.meets(2), 0);
    }

    private static void meetWithAnEdgeInside() {
        Due.sentence("MEET: an edge of one within the other one, or through it");
        int[] deep = {99, 100, 101};
        int[] want = {0, 0, 1};
        for (int i = 0; i < 3; i++) {
            SheetFolder x = Parts.based(100, 100);
            join(x, 0, EAST, 0, 100, 60, UP);
            join(x, 1, EAST, 0, 100, deep[i], UP);
            join(x, 0, WEST, 20, 50, 60, UP);
            due("a panel's edge under another one, deep " + deep[i], x.meets(14), want[i]);
            SheetFolder y = Parts.based(100, 100);
            join(y, 0, EAST, 0, 100, 60, UP);
            join(y, 1, EAST, 0, 100, deep[i], UP);
            join(y, 0, WEST, 20, 50, 70, UP);
            // At 100 the edge lies on the inside of the west panel, at 101 it has gone through.
            due("a panel through another one, deep " + deep[i], y.meets(14), i == 0 ? 0 : 1);
        }
    }

    private static void meetInOnePlane() {
        Due.sentence("MEET: in one plane with inner points in common");
        SheetFolder x = Parts.based(100, 100);
        join(x, 0, EAST, 0, 51, 50, UP);
        join(x, 0, EAST, 50, 50, 50, UP);
        due("by 1, flat", x.meets(0), 1);
        due("by 1, both stand", x.meets(6), 1);
        due("one stands on the other's edge", x.meets(2), 0);
        SheetFolder y = Parts.based(100, 100);
        join(y, 0, EAST, 0, 50, 50, UP);
        join(y, 0, EAST, 0, 50, 50, UP);
        join(y, 0, EAST, 0, 50, 50, DOWN);
        due("three at the same place: three pairs", y.meets(0), 3);
        due("one of them stands", y.meets(2), 1);
        due("all stand, one down", y.meets(14), 1);
    }

    private static void gaugeAtLeastSoLong() {
        Due.sentence("A GAUGE EDGE: a free side at least so long as the GAUGE (at first 80)");
        int[] height = {79, 80, 81};
        int[] want = {NONE, 2, 2};
        for (int i = 0; i < 3; i++) {
            SheetFolder x = Parts.based(10, height[i]);
            join(x, 0, EAST, 0, 10, 10, UP);
            due("at first, " + height[i] + " long", x.edge(0, 1), want[i]);
            x.gauge(height[i]);
            due("as long as the gauge", x.edge(0, 1), 2);
            x.gauge(height[i] + 1);
            due("shorter by 1", x.edge(0, 1), NONE);
        }
        SheetFolder y = Parts.based(10, 50);
        join(y, 0, EAST, 0, 50, 90, UP);
        due("the length is that along the bend", y.edge(0, 1), NONE);
    }

    private static void gaugeOnFreeSides() {
        Due.sentence("A GAUGE EDGE: a free side");
        SheetFolder x = Parts.based(100, 100);
        join(x, 0, EAST, 0, 100, 20, UP);
        due("west of the base", x.edge(0, 1), 2);
        join(x, 0, WEST, 0, 100, 20, UP);
        due("not west of the base, east of panel 1", x.edge(0, 1), 4);
        join(x, 1, EAST, 0, 1, 20, UP);
        due("not panel 1's either, however short its bend: west of panel 2", x.edge(0, 1), 10);
        join(x, 2, WEST, 99, 1, 20, UP);
        due("none of them", x.edge(0, 1), NONE);
    }

    private static void gaugeParallelThen() {
        Due.sentence("A GAUGE EDGE: parallel to the bend then");
        SheetFolder x = Parts.based(20, 20);
        join(x, 0, EAST, 0, 20, 90, UP);
        join(x, 0, NORTH, 0, 20, 5, UP);
        join(x, 1, NORTH, 0, 50, 5, UP);
        due("panel 1 lies: its long side is parallel", x.edge(0, 2), 4 + SOUTH);
        due("panel 1 stands: it is not", x.edge(2, 2), NONE);
        due("along a bend of panel 1 that lies", x.edge(0, 3), 4 + SOUTH);
        due("along a bend of panel 1 that stands", x.edge(2, 3), 4 + SOUTH);
        due("across", x.edge(0, 1), NONE);
        SheetFolder y = Parts.based(90, 20);
        join(y, 0, EAST, 0, 20, 20, UP);
        join(y, 1, NORTH, 0, 20, 5, UP);
        due("the bend lies along x", y.edge(0, 2), NORTH);
        due("the bend stands: the base's sides are not parallel to it", y.edge(2, 2), NONE);
    }

    private static void gaugeOfTheLeast() {
        Due.sentence("A GAUGE EDGE: that of the least panel, of its least side");
        SheetFolder x = Parts.based(100, 100);
        join(x, 0, NORTH, 0, 10, 10, UP);
        join(x, 0, EAST, 0, 100, 100, UP);
        join(x, 0, WEST, 0, 100, 100, UP);
        due("the base's south before panel 2's and 3's", x.edge(0, 1), SOUTH);
        join(x, 0, SOUTH, 0, 10, 10, UP);
        due("panel 2's north before its south and panel 3's", x.edge(0, 1), 8 + NORTH);
        due("panel 2's east before panel 3's west", x.edge(0, 2), 8 + EAST);
        join(x, 2, NORTH, 0, 10, 10, UP);
        due("panel 2's south before panel 3's north", x.edge(0, 1), 8 + SOUTH);
        due("panel 2 stands: panel 3's north", x.edge(4, 1), 12 + NORTH);
        SheetFolder y = Parts.based(100, 100);
        join(y, 0, NORTH, 0, 100, 10, UP);
        join(y, 1, EAST, 0, 10, 10, UP);
        due("east before west, across", y.edge(0, 2), EAST);
    }

    private static void orderOfAllBends() {
        Due.sentence("AN ORDER: all bends, one after the other");
        for (int count = 0; count <= 12; count += 4) {
            SheetFolder x = Parts.flanges(count);
            int[] want = new int[count];
            for (int i = 0; i < count; i++) {
                want[i] = i + 1;
            }
            Parts.dueSteps(count + " bends", x, want);
        }
    }

    private static void orderEachTurnClear() {
        Due.sentence("AN ORDER: each turn clear");
        SheetFolder x = Parts.based(100, 100);
        join(x, 0, EAST, 0, 51, 50, UP);
        join(x, 0, EAST, 50, 50, 50, UP);
        Parts.dueNoOrder("two flanges on each other by 1", x);
        SheetFolder y = Parts.based(100, 100);
        join(y, 0, EAST, 0, 50, 50, UP);
        join(y, 0, EAST, 50, 50, 50, UP);
        Parts.dueSteps("two flanges side by side", y, 1, 2);
    }

    private static void orderEachWithAnEdge() {
        Due.sentence("AN ORDER: and with a gauge edge");
        SheetFolder x = Parts.channel(40);
        x.gauge(100);
        Parts.dueSteps("gauge 100", x, 1, 2);
        x.gauge(101);
        due("both turns are clear", x.clear(0, 1) + x.clear(2, 2), 2);
        Parts.dueNoOrder("gauge 101", x);
    }

    private static void orderThoseBeforeFolded() {
        Due.sentence("AN ORDER: those before it folded");
        Parts.dueSteps("50 deep goes by the base", Parts.channel(50), 1, 2);
        SheetFolder x = Parts.channel(51);
        due("bend 1 is clear at first", x.clear(0, 1), 1);
        due("bend 2 is not clear after it", x.clear(2, 2), 0);
        Parts.dueSteps("51 deep has to be first", x, 2, 1);
        SheetFolder y = Parts.based(20, 100);
        join(y, 0, EAST, 0, 100, 90, UP);
        join(y, 0, NORTH, 0, 20, 5, UP);
        due("a gauge edge for bend 2 while panel 1 lies", y.edge(0, 2), 4 + NORTH);
        due("none when it stands", y.edge(2, 2), NONE);
        Parts.dueSteps("bend 2 has to be first for its gauge edge", y, 2, 1);
    }

    private static void orderOfTheLesserBends() {
        Due.sentence("AN ORDER: of all the one whose bends are less where they first differ");
        SheetFolder x = Parts.channel(120);
        join(x, 0, NORTH, 0, 100, 10, UP);
        Parts.dueSteps("2 before 1, 3 at any time", x, 2, 1, 3);
        SheetFolder y = Parts.based(100, 100);
        join(y, 0, NORTH, 0, 100, 10, UP);
        join(y, 0, EAST, 0, 100, 50, UP);
        join(y, 2, EAST, 0, 100, 120, UP);
        Parts.dueSteps("3 before 2, 1 at any time", y, 1, 3, 2);
    }

    private static void constants() {
        Due.sentence("NONE = -1, NOWHERE = -1000000");
        due("NONE", SheetFolder.NONE, -1);
        due("NOWHERE", SheetFolder.NOWHERE, -1000000);
    }
}
