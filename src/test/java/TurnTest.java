/**
 * The sentences of 'Terms' about a turn, one test each, on both sides of the boundary that they name.
 *
 * <p>The bend that turns is mostly bend 1, at the east side of a base of 100 by 100, up: u is x - 100, v is z, w is
 * y. Panels that go on from the base's west side (an arch over or under the base) come to any quadrant on the fixed
 * side, panels that go on from panel 1 (a hook) on the moving side.
 */
public final class TurnTest {
    private static final int EAST = Parts.EAST;
    private static final int NORTH = Parts.NORTH;
    private static final int WEST = Parts.WEST;
    private static final int SOUTH = Parts.SOUTH;
    private static final int UP = Parts.UP;
    private static final int DOWN = Parts.DOWN;
    /** The bits of the three bends of an arch. */
    private static final int ARCH = 4 + 8 + 16;

    private TurnTest() {
    }

    public static void main(String[] args) {
        Due.run(TurnTest::theLessMove, TurnTest::asManyPanelKs, TurnTest::quadrant0FromMoreThan0,
                TurnTest::quadrant0NotLess, TurnTest::quadrant1NotMoreThan0, TurnTest::quadrant1More,
                TurnTest::quadrant2LessThan0, TurnTest::quadrant2NotMore, TurnTest::quadrant3NotLessThan0,
                TurnTest::quadrant3Less, TurnTest::goesToTheNextOne, TurnTest::goesFrom2To3, TurnTest::goesFrom3To0,
                TurnTest::goesTheOtherWay, TurnTest::notToTheOneAfter, TurnTest::notToTheOneBefore,
                TurnTest::inTheSameQuadrant, TurnTest::whereThePanelWillStand, TurnTest::bandFromTheLeast,
                TurnTest::bandToTheGreatest, TurnTest::bandAtTheLimits, TurnTest::bandsHaveAStretch,
                TurnTest::butForPanelKAndItsParent, TurnTest::rangesHaveAStretch, TurnTest::movingSinglePlaceInside,
                TurnTest::fixedSinglePlaceInside, TurnTest::sameSinglePlace, TurnTest::greatestPlaces);
        Due.end();
    }

    private static void due(String call, long got, long want) {
        Due.due(call, got, want);
    }

    private static int join(SheetFolder x, int parent, int side, int offset, int wide, int deep, int up) {
        return Parts.join(x, parent, side, offset, wide, deep, up);
    }

    /** Panel 1, so deep, and an arch: panel 2 at the west side, 3 over (or under) the base, 4 at 3's end. */
    private static SheetFolder arch(int deep, int up, int high, int over, int endUp, int end) {
        SheetFolder x = Parts.based(100, 100);
        join(x, 0, EAST, 0, 100, deep, UP);
        join(x, 0, WEST, 0, 100, high, up);
        join(x, 2, WEST, 0, 100, over, up);
        join(x, 3, WEST, 0, 100, end, endUp);
        return x;
    }

    /** A panel more at the east end of a hook. */
    private static int hook(SheetFolder x, int parent, int deep, int up) {
        return join(x, parent, EAST, 0, 100, deep, up);
    }

    /**
     * The same answer is due when the base's side moves instead: so many more are joined to panel 1's north side,
     * where they are beside all others, that its side is the greater one.
     */
    private static void dueBothWays(String name, SheetFolder x, int bits, int want) {
        due(name + ": panel 1 moves", x.moves(1) >> 1 & 1, 1);
        due(name + ": clear", x.clear(bits, 1), want);
        for (int k = 0; k < 12 && (x.moves(1) & 1) == 0; k++) {
            join(x, 1, NORTH, k, 1, 1, UP);
        }
        due(name + ": the base moves", x.moves(1) & 1, 1);
        due(name + ": clear when the base moves", x.clear(bits, 1), want);
    }

    private static void theLessMove() {
        Due.sentence("Those that are less MOVE");
        SheetFolder x = Parts.channel(50);
        due("one of three: the base", x.moves(1), 1);
        due("one of three: the last", x.moves(2), 4);
        join(x, 2, NORTH, 0, 10, 50, UP);
        join(x, 0, NORTH, 0, 10, 50, UP);
        due("two of five: the base and what is joined to it", x.moves(1), 1 + 16);
        due("two of five: panel 2 and what is joined to it", x.moves(2), 4 + 8);
        due("one of five, at the end", x.moves(3), 8);
        due("one of five, beside", x.moves(4), 16);
        due("six of thirteen", sixOfThirteen().moves(7), 8064);
        due("six of thirteen, before it", sixOfThirteen().moves(6), 63);
    }

    private static SheetFolder sixOfThirteen() {
        SheetFolder x = Parts.based(100, 100);
        for (int p = 0; p < 12; p++) {
            join(x, p, EAST, 0, 100, 100, UP);
        }
        return x;
    }

    private static void asManyPanelKs() {
        Due.sentence("Panel k's MOVE when they are as many");
        SheetFolder x = Parts.based(100, 100);
        join(x, 0, EAST, 0, 100, 50, UP);
        due("one and one", x.moves(1), 2);
        join(x, 1, EAST, 0, 100, 50, UP);
        join(x, 2, EAST, 0, 100, 50, UP);
        due("two and two", x.moves(2), 4 + 8);
        join(x, 0, NORTH, 0, 10, 50, UP);
        join(x, 4, NORTH, 0, 10, 50, UP);
        due("three and three", x.moves(1), 2 + 4 + 8);
    }

    private static void quadrant0FromMoreThan0() {
        Due.sentence("QUADRANT 0 has u more than 0");
        // Panel 5 hangs in 3 and goes to 0; panel 4 stands on u 0, then on u 1.
        SheetFolder x = arch(50, UP, 60, 100, DOWN, 40);
        hook(x, 1, 50, DOWN);
        dueBothWays("at u 0", x, ARCH + 32, 1);
        SheetFolder y = arch(50, UP, 60, 101, DOWN, 40);
        hook(y, 1, 50, DOWN);
        dueBothWays("at u 1", y, ARCH + 32, 0);
    }

    private static void quadrant0NotLess() {
        Due.sentence("QUADRANT 0 has v not less than 0");
        // Panel 5 lies on v 0, from u 50 to 61: it goes to 1, where panel 3 is from 3600 on.
        SheetFolder x = arch(50, UP, 60, 100, DOWN, 40);
        hook(x, 1, 11, DOWN);
        dueBothWays("at v 0", x, ARCH, 0);
        SheetFolder y = arch(50, UP, 60, 100, DOWN, 40);
        hook(y, 1, 10, DOWN);
        dueBothWays("at v 0, nearer", y, ARCH, 1);
    }

    private static void quadrant1NotMoreThan0() {
        Due.sentence("QUADRANT 1 has u not more than 0");
        // Panel 4 hangs on u 0, v 50 to 90; all else of the arch is farther than 8100.
        dueBothWays("at u 0, just touched", arch(50, UP, 90, 100, UP, 40), ARCH, 1);
        dueBothWays("at u 0", arch(51, UP, 90, 100, UP, 40), ARCH, 0);
        // Panel 2 stands across, at w 50: with an edge on u 0 it is in 1, and goes to the base in 2.
        for (int offset = 0; offset < 2; offset++) {
            SheetFolder x = Parts.based(100, 100);
            join(x, 0, EAST, 0, 50, 50, UP);
            join(x, 1, NORTH, offset, 49, 40, UP);
            join(x, 0, WEST, 0, 100, 10, UP);
            due("across, from u " + offset, x.clear(4, 1), offset);
        }
    }

    private static void quadrant1More() {
        Due.sentence("QUADRANT 1 has v more than 0");
        // The base lies on v 0, u less than 0: what goes from 0 to 1 does not come to it.
        SheetFolder x = arch(50, UP, 60, 100, UP, 40);
        hook(x, 1, 50, UP);
        dueBothWays("at v 0", x, 0, 1);
    }

    private static void quadrant2LessThan0() {
        Due.sentence("QUADRANT 2 has u less than 0");
        // Panel 7 hangs on u 0 (then -1), and the base is in 2.
        int[] back = {50, 51};
        int[] want = {1, 0};
        for (int i = 0; i < 2; i++) {
            SheetFolder x = arch(50, UP, 60, 100, UP, 40);
            hook(x, 1, 30, DOWN);
            hook(x, 5, back[i], DOWN);
            hook(x, 6, 20, UP);
            dueBothWays("at u " + (50 - back[i]), x, 32 + 64 + 128, want[i]);
        }
    }

    private static void quadrant2NotMore() {
        Due.sentence("QUADRANT 2 has v not more than 0");
        // Panel 6 is over the base, in 1, and goes to 2, where the base lies on v 0.
        int[] back = {50, 51};
        int[] want = {1, 0};
        for (int i = 0; i < 2; i++) {
            SheetFolder x = arch(50, UP, 60, 100, UP, 40);
            hook(x, 1, 60, UP);
            hook(x, 5, back[i], UP);
            dueBothWays("back to u " + (50 - back[i]), x, 32 + 64, want[i]);
        }
    }

    private static void quadrant3NotLessThan0() {
        Due.sentence("QUADRANT 3 has u not less than 0");
        // Panel 4 is on u 0, v -90 to -50, and panel 5 hangs by 1 in 3; one place less far over, panel 4 is in 2.
        SheetFolder x = arch(50, DOWN, 90, 100, DOWN, 40);
        hook(x, 1, 1, DOWN);
        dueBothWays("at u 0", x, ARCH + 32, 0);
        SheetFolder y = arch(50, DOWN, 90, 99, DOWN, 40);
        hook(y, 1, 1, DOWN);
        dueBothWays("at u -1", y, ARCH + 32, 1);
    }

    private static void quadrant3Less() {
        Due.sentence("QUADRANT 3 has v less than 0");
        // Panel 1 lies on v 0 and goes to 1; panel 4 is in 3 and within its reach.
        dueBothWays("at v 0", arch(50, DOWN, 90, 100, DOWN, 50), ARCH, 1);
    }

    private static void goesToTheNextOne() {
        Due.sentence("What moves on panel k's side goes from quadrant q to q + 1");
        dueBothWays("0 to 1", arch(61, UP, 60, 100, UP, 1), ARCH, 0);
        SheetFolder x = arch(50, UP, 60, 100, UP, 40);
        hook(x, 1, 60, UP);
        hook(x, 5, 70, UP);
        dueBothWays("1 to 2", x, 32 + 64, 0);
    }

    /** Panel 6 comes to u -10, v -30 at a place along the bend where panel 2 hangs on u 0. */
    private static void goesFrom2To3() {
        Due.sentence("From quadrant 2 to 3");
        int[] hangs = {30, 31};
        int[] want = {1, 0};
        for (int i = 0; i < 2; i++) {
            SheetFolder x = Parts.based(10, 100);
            join(x, 0, EAST, 0, 50, 50, UP);
            join(x, 0, EAST, 50, 50, hangs[i], DOWN);
            join(x, 1, EAST, 0, 50, 30, DOWN);
            join(x, 3, EAST, 0, 50, 60, DOWN);
            join(x, 4, NORTH, 50, 10, 30, UP);
            join(x, 0, WEST, 0, 10, 5, UP);
            join(x, 0, WEST, 20, 10, 5, UP);
            Parts.duePlace("in 2", x, 4 + 8 + 16, 5, 0, 50, -30, 10, 80, -30);
            due("panel 1 moves", x.moves(1), 2 + 8 + 16 + 32);
            due("hangs by " + hangs[i], x.clear(4 + 8 + 16, 1), want[i]);
        }
    }

    private static void goesFrom3To0() {
        Due.sentence("(3 to 0)");
        int[] deep = {2, 3};
        int[] want = {1, 0};
        for (int i = 0; i < 2; i++) {
            // Panel 5 hangs in 3 from 2500 to 2500 + deep * deep, panel 4 is in 0 at u 2, v 50 to 90: from 2504 on.
            SheetFolder x = arch(50, UP, 90, 102, UP, 40);
            hook(x, 1, deep[i], DOWN);
            dueBothWays("hangs by " + deep[i], x, ARCH + 32, want[i]);
        }
    }

    private static void goesTheOtherWay() {
        Due.sentence("On the other side the other way");
        // The base's side is the less one: the base lies in 2 and goes to 1, not to 3.
        SheetFolder x = Parts.based(100, 100);
        join(x, 0, EAST, 0, 100, 50, UP);
        hook(x, 1, 30, UP);
        hook(x, 2, 70, UP);
        due("the base moves", x.moves(1), 1);
        due("what stands in 1 is in its way", x.clear(4 + 8, 1), 0);
        SheetFolder y = Parts.based(100, 100);
        join(y, 0, EAST, 0, 100, 50, UP);
        hook(y, 1, 30, DOWN);
        hook(y, 2, 50, DOWN);
        due("the base moves", y.moves(1), 1);
        due("what hangs in 3 is not", y.clear(4 + 8, 1), 1);
        SheetFolder z = Parts.based(100, 100);
        join(z, 0, EAST, 0, 100, 50, DOWN);
        hook(z, 1, 30, DOWN);
        hook(z, 2, 70, DOWN);
        due("a bend down: v leads down", z.clear(4 + 8, 1), 0);
    }

    private static void notToTheOneAfter() {
        Due.sentence("Or in the next one: not in the one after that");
        SheetFolder x = arch(50, DOWN, 60, 100, DOWN, 10);
        hook(x, 1, 200, UP);
        dueBothWays("in 0 and far, the arch in 2 and 3", x, ARCH, 1);
        SheetFolder y = arch(50, UP, 60, 99, DOWN, 40);
        hook(y, 1, 50, DOWN);
        dueBothWays("in 3, the arch in 1", y, ARCH + 32, 1);
    }

    private static void notToTheOneBefore() {
        Due.sentence("Or in the next one: not in the one before");
        SheetFolder x = arch(50, DOWN, 60, 150, DOWN, 60);
        dueBothWays("in 0, the arch in 3", x, ARCH, 1);
        SheetFolder y = arch(50, UP, 60, 100, UP, 40);
        hook(y, 1, 50, DOWN);
        dueBothWays("in 3, the base in 2", y, 32, 1);
    }

    private static void inTheSameQuadrant() {
        Due.sentence("The fixed one's in that quadrant");
        int[] over = {149, 151};
        for (int i = 0; i < 2; i++) {
            SheetFolder x = arch(50, DOWN, 60, over[i], DOWN, 60);
            hook(x, 1, 50, DOWN);
            dueBothWays("both in 3, over " + over[i], x, ARCH + 32, 0);
        }
        SheetFolder y = Parts.based(100, 100);
        join(y, 0, EAST, 0, 60, 30, UP);
        join(y, 0, EAST, 50, 50, 30, UP);
        due("both in 0", y.clear(0, 1), 0);
        SheetFolder z = arch(50, UP, 60, 100, UP, 40);
        hook(z, 1, 30, DOWN);
        hook(z, 5, 70, DOWN);
        dueBothWays("both in 2", z, 32 + 64, 0);
        due("both in 1, which do not reach one another", bothIn1(141).clear(4 + 64 + 128, 1), 1);
        due("both in 1", bothIn1(142).clear(4 + 64 + 128, 1), 0);
    }

    /** Panels 3 and 7 are in 1, at u -100 and at v 40, both beside the base, so that it is not in 7's way. */
    private static SheetFolder bothIn1(int deep) {
        SheetFolder x = Parts.based(100, 100);
        join(x, 0, EAST, 0, 100, 50, UP);
        join(x, 0, WEST, 0, 100, 60, UP);
        join(x, 2, NORTH, 0, 60, 50, UP);
        join(x, 0, SOUTH, 0, 10, 10, UP);
        join(x, 1, NORTH, 0, 50, 50, UP);
        join(x, 5, EAST, 0, 50, 40, UP);
        join(x, 6, EAST, 0, 50, deep, UP);
        due("panel 1 moves", x.moves(1), 2 + 32 + 64 + 128);
        return x;
    }

    private static void whereThePanelWillStand() {
        Due.sentence("v at a right angle to that, where panel k will stand");
        int[] up = {UP, DOWN};
        for (int i = 0; i < 2; i++) {
            SheetFolder x = Parts.based(100, 100);
            join(x, 0, EAST, 0, 100, 61, up[i]);
            join(x, 0, WEST, 0, 100, 60, UP);
            join(x, 2, WEST, 0, 100, 100, UP);
            due("the arch is over the base, up " + up[i], x.clear(4 + 8, 1), i);
            SheetFolder y = Parts.based(100, 100);
            join(y, 0, EAST, 0, 100, 61, up[i]);
            join(y, 0, WEST, 0, 100, 60, DOWN);
            join(y, 2, WEST, 0, 100, 100, DOWN);
            due("the arch is under the base, up " + up[i], y.clear(4 + 8, 1), 1 - i);
        }
    }

    private static void bandFromTheLeast() {
        Due.sentence("A BAND: from the least u u + v v of its points there");
        // Panel 3 is at v 60 up to u 0: 3600 and more.
        dueBothWays("60 deep", arch(60, UP, 60, 100, DOWN, 10), ARCH, 1);
        dueBothWays("61 deep", arch(61, UP, 60, 100, DOWN, 10), ARCH, 0);
        // Panel 3 ends at u -45, v 60: 5625 and more.
        dueBothWays("75 deep", arch(75, UP, 60, 55, DOWN, 10), ARCH, 1);
        dueBothWays("76 deep", arch(76, UP, 60, 55, DOWN, 10), ARCH, 0);
    }

    /** Panel 3 ends at u 30, v 80, so that it is in 0 up to 7300; panel 5 hangs in 3, beside panels 1 and 4. */
    private static void bandToTheGreatest() {
        Due.sentence("To the greatest u u + v v of its points there");
        int[] offset = {29, 30};
        int[] want = {0, 1};
        for (int i = 0; i < 2; i++) {
            SheetFolder x = Parts.based(100, 100);
            join(x, 0, EAST, 0, 50, 80, UP);
            join(x, 0, WEST, 50, 50, 80, UP);
            join(x, 2, WEST, 0, 50, 130, UP);
            join(x, 1, EAST, 0, 50, 60, DOWN);
            join(x, 4, NORTH, offset[i], 10, 50, UP);
            Parts.duePlace("hangs in 3", x, 28, 5, 180, 50, -offset[i] - 10, 180, 100, -offset[i]);
            due("from v -" + offset[i], x.clear(28, 1), want[i]);
        }
    }

    /** Panel 3 goes through u 0 at v 60: what of it is in 0 begins at the limit 3600, which is no place of 0. */
    private static void bandAtTheLimits() {
        Due.sentence("Or at the limits of those");
        int[] deep = {48, 55};
        int[] hangs = {36, 24};
        int[] want = {1, 0};
        for (int i = 0; i < 2; i++) {
            SheetFolder x = Parts.based(100, 100);
            join(x, 0, EAST, 0, 100, deep[i], UP);
            join(x, 0, WEST, 0, 100, 60, UP);
            join(x, 2, WEST, 0, 100, 130, UP);
            hook(x, 1, hangs[i], DOWN);
            dueBothWays("up to " + (deep[i] * deep[i] + hangs[i] * hangs[i]), x, 4 + 8 + 16, want[i]);
        }
    }

    private static void bandsHaveAStretch() {
        Due.sentence("The bands have a common stretch of some length");
        due("40 deep goes by the base", Parts.channel(40).clear(2, 2), 1);
        due("50 deep just touches it", Parts.channel(50).clear(2, 2), 1);
        due("51 deep sweeps through it", Parts.channel(51).clear(2, 2), 0);
        // Panel 3 has of quadrant 3 its edge on u 0 alone, at 3600; panel 4 hangs there from 2500 to 12500.
        SheetFolder x = Parts.based(100, 100);
        join(x, 0, EAST, 0, 100, 50, UP);
        join(x, 0, WEST, 0, 100, 60, DOWN);
        join(x, 2, WEST, 0, 100, 100, DOWN);
        hook(x, 1, 100, DOWN);
        dueBothWays("a single place is no stretch", x, 4 + 8 + 16, 1);
    }

    private static void butForPanelKAndItsParent() {
        Due.sentence("But for panel k and its parent");
        for (int side = 0; side < 4; side++) {
            for (int up = 0; up < 2; up++) {
                SheetFolder x = Parts.based(100, 100);
                join(x, 0, side, 10, 50, 300, up);
                due("side " + side + ", up " + up, x.clear(0, 1), 1);
            }
        }
        due("what is joined to panel k further on is looked at", backOnTheBase(51).clear(4 + 8, 1), 0);
        due("where it does not reach the base", backOnTheBase(50).clear(4 + 8, 1), 1);
    }

    private static SheetFolder backOnTheBase(int deep) {
        SheetFolder x = Parts.based(100, 100);
        join(x, 0, EAST, 0, 100, 50, UP);
        join(x, 1, EAST, 0, 100, 60, UP);
        join(x, 2, EAST, 0, 100, deep, UP);
        return x;
    }

    private static void rangesHaveAStretch() {
        Due.sentence("Their ranges of w have a common stretch of some length");
        int[] offset = {49, 50, 49, 50};
        int[] bits = {0, 0, 4, 4};
        int[] want = {0, 1, 0, 1};
        for (int i = 0; i < 4; i++) {
            SheetFolder x = Parts.based(100, 100);
            join(x, 0, EAST, 0, 50, 30, UP);
            join(x, 0, EAST, offset[i], 50, 30, UP);
            due("bits " + bits[i] + ", from " + offset[i], x.clear(bits[i], 1), want[i]);
            SheetFolder y = Parts.based(100, 100);
            join(y, 0, EAST, offset[i], 50, 30, UP);
            join(y, 0, EAST, 0, 50, 30, UP);
            due("the other way round, bits " + bits[i] + ", from " + offset[i], y.clear(bits[i], 1), want[i]);
        }
    }

    /** Panel 2 stands across panel 1's end at w 50 and reaches panel 4, which panel 1 does not. */
    private static void movingSinglePlaceInside() {
        Due.sentence("Or one is a single place inside the other's, not at its ends");
        int[] offset = {50, 49, 0, 0};
        int[] wide = {50, 51, 50, 51};
        int[] want = {1, 0, 1, 0};
        for (int i = 0; i < 4; i++) {
            SheetFolder x = Parts.based(100, 100);
            join(x, 0, EAST, 0, 50, 50, UP);
            join(x, 1, NORTH, 1, 49, 40, UP);
            join(x, 0, WEST, offset[i], wide[i], 60, UP);
            join(x, 3, WEST, 0, wide[i], 100, UP);
            due("50 in " + offset[i] + " to " + (offset[i] + wide[i]), x.clear(28, 1), want[i]);
        }
    }

    /** Panel 4 stands across at w 200, panel 2 comes along the bend up to there. */
    private static void fixedSinglePlaceInside() {
        Due.sentence("Or the fixed one is a single place inside the moving one's, not at its ends");
        int[] deep = {99, 100, 101};
        int[] want = {1, 1, 0};
        for (int i = 0; i < 3; i++) {
            SheetFolder x = Parts.based(100, 100);
            join(x, 0, EAST, 0, 100, 60, UP);
            join(x, 1, NORTH, 0, 60, deep[i], UP);
            join(x, 0, NORTH, 0, 100, 100, UP);
            join(x, 3, NORTH, 0, 100, 70, UP);
            due("200 in 100 to " + (100 + deep[i]), x.clear(16, 1), want[i]);
        }
        SheetFolder y = Parts.based(100, 100);
        join(y, 0, EAST, 0, 100, 60, UP);
        join(y, 0, NORTH, 0, 100, 70, UP);
        join(y, 0, SOUTH, 0, 100, 70, UP);
        due("0 and 100 in 0 to 100", y.clear(4 + 8, 1), 1);
    }

    private static void sameSinglePlace() {
        Due.sentence("Or both are the same single place");
        int[] wide = {100, 99};
        for (int i = 0; i < 2; i++) {
            SheetFolder x = Parts.based(100, 100);
            join(x, 0, EAST, 0, wide[i], 50, UP);
            join(x, 1, NORTH, 1, 49, 40, UP);
            join(x, 0, NORTH, 0, 100, 30, UP);
            due(wide[i] + " and 100", x.clear(4 + 8, 1), i);
        }
    }

    /** Twelve panels of 2000 one after the other: the greatest u u + v v. */
    private static void greatestPlaces() {
        Due.sentence("The greatest places do not wrap around");
        SheetFolder x = Parts.based(2000, 2000);
        for (int p = 0; p < 12; p++) {
            join(x, p, EAST, 0, 2000, 2000, UP);
        }
        for (int bend = 1; bend < 13; bend++) {
            due("flat, bend " + bend, x.clear(0, bend), 1);
        }
        Parts.duePlace("flat", x, 0, 12, 24000, 0, 0, 26000, 2000, 0);
        due("rolled up: the base is just touched", x.clear(4 + 8, 1), 1);
        due("rolled up once more: the base is in the way", x.clear(4 + 8 + 16, 1), 0);
        SheetFolder y = Parts.based(2000, 2000);
        for (int p = 0; p < 12; p++) {
            join(y, p, p % 2, 0, 2000, 2000, UP);
        }
        for (int bend = 1; bend < 13; bend++) {
            due("stairs, bend " + bend, y.clear(0, bend), 1);
        }
    }
}
