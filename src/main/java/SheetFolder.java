/**
 * A part of sheet metal: panels joined at bends, laid flat with deductions, folded in space; the order in which
 * its bends can be pressed, so that no panel sweeps through another one.
 */
public final class SheetFolder {
    public static final int NONE = -1;
    public static final int NOWHERE = -1000000;

    private static final int MOST_PANELS = 13;
    private static final int MOST_SETS = 1 << (MOST_PANELS - 1);
    private static final int LONGEST_SIDE = 2000;
    private static final int GREATEST_DEDUCTION = 400;
    private static final int LONGEST_GAUGE = 4000;
    private static final int FIRST_GAUGE = 80;

    private static final int EAST = 0;
    private static final int NORTH = 1;
    private static final int WEST = 2;
    private static final int SOUTH = 3;
    private static final int SIDES = 4;

    private static final int QUADRANTS = 4;
    private static final int AXES = 3;

    /** Stands in the table of orders where all bends are folded: no bend has this number. */
    private static final int ALL_FOLDED = 0;

    private final Plan plan;
    private final Pattern pattern;
    private final Fold fold;
    private final Turn turn;
    private int deduction;
    private int gauge;
    private int wrongPanel;
    private int wrongOther;
    /** The least bend with which an order goes on, by the set of folded bends (bit k - 1 for bend k), or NONE. */
    private final int[] nextBend;
    private boolean ordersKnown;

    public SheetFolder() {
        plan = new Plan();
        pattern = new Pattern();
        fold = new Fold();
        turn = new Turn();
        deduction = 0;
        gauge = FIRST_GAUGE;
        wrongPanel = NONE;
        wrongOther = NONE;
        nextBend = new int[MOST_SETS];
        ordersKnown = false;
    }

    public int base(int width, int height) {
        if (!isWithin(width, 1, LONGEST_SIDE) || !isWithin(height, 1, LONGEST_SIDE)) {
            return 0;
        }
        plan.startAnew(width, height);
        ordersKnown = false;
        return 1;
    }

    public int panel(int parent, int side, int offset, int wide, int deep, int up) {
        if (plan.panels >= MOST_PANELS || !isWithin(up, 0, 1) || !plan.canBeJoined(parent, side)) {
            return NONE;
        }
        if (!isWithin(wide, 1, LONGEST_SIDE) || !isWithin(deep, 1, LONGEST_SIDE)) {
            return NONE;
        }
        // Not offset + wide: the sum of two wild arguments could wrap around.
        if (!isWithin(offset, 0, plan.lengthOf(parent, side) - wide)) {
            return NONE;
        }
        ordersKnown = false;
        return plan.join(parent, side, offset, wide, deep, up == 1);
    }

    public int deduction(int d) {
        if (!isWithin(d, 0, GREATEST_DEDUCTION) || (d & 1) != 0) {
            return 0;
        }
        deduction = d;
        return 1;
    }

    public int gauge(int length) {
        if (!isWithin(length, 1, LONGEST_GAUGE)) {
            return 0;
        }
        gauge = length;
        ordersKnown = false;
        return 1;
    }

    public int over() {
        if (plan.panels == 0) {
            return 0;
        }
        plan.turnOver();
        ordersKnown = false;
        return 1;
    }

    public int flat() {
        if (plan.panels == 0) {
            return NONE;
        }
        pattern.layOut(plan, deduction);
        wrongPanel = pattern.firstWithoutInside();
        wrongOther = NONE;
        if (wrongPanel != NONE) {
            return 1;
        }
        for (int p = 0; p < plan.panels; p++) {
            int other = pattern.firstOverlap(p);
            if (other != NONE) {
                wrongPanel = p;
                wrongOther = other;
                return 2;
            }
        }
        return 0;
    }

    public int wrong(int i) {
        if (i == 0) {
            return wrongPanel;
        }
        return i == 1 ? wrongOther : NONE;
    }

    public int flatOf(int p, int what) {
        if (!plan.hasPanel(p) || !isWithin(what, 0, SIDES - 1)) {
            return NOWHERE;
        }
        pattern.layOut(plan, deduction);
        // The places are asked for in the order west, south, east, north.
        return pattern.limit[opposite(what)][p];
    }

    public int size(int what) {
        if (plan.panels == 0 || !isWithin(what, 0, 1)) {
            return NOWHERE;
        }
        pattern.layOut(plan, deduction);
        return pattern.greatestOf(what == 0 ? EAST : NORTH);
    }

    public int place(int bits, int p, int what) {
        if (!plan.hasPanel(p) || !plan.areBends(bits) || !isWithin(what, 0, 2 * AXES - 1)) {
            return NOWHERE;
        }
        fold.foldAll(plan, bits);
        return what < AXES ? fold.least[what][p] : fold.greatest[what - AXES][p];
    }

    public int meets(int bits) {
        if (plan.panels == 0 || !plan.areBends(bits)) {
            return NONE;
        }
        fold.foldAll(plan, bits);
        int pairs = 0;
        for (int p = 0; p < plan.panels; p++) {
            for (int q = p + 1; q < plan.panels; q++) {
                if (plan.parent[q] != p && (fold.isEntered(p, q) || fold.isEntered(q, p))) {
                    pairs++;
                }
            }
        }
        return pairs;
    }

    public int moves(int bend) {
        return plan.hasBend(bend) ? plan.movingWith(bend) : NONE;
    }

    public int clear(int bits, int bend) {
        if (!canBeAsked(bits, bend)) {
            return NONE;
        }
        fold.foldAll(plan, bits);
        return turn.isFree(plan, fold, bend) ? 1 : 0;
    }

    public int edge(int bits, int bend) {
        if (!canBeAsked(bits, bend)) {
            return NONE;
        }
        fold.foldAll(plan, bits);
        return fold.gaugeEdge(plan, bend, gauge);
    }

    public int order() {
        if (plan.panels == 0) {
            return NONE;
        }
        learnOrders();
        return nextBend[0] == NONE ? NONE : plan.panels - 1;
    }

    public int step(int i) {
        if (plan.panels == 0 || !isWithin(i, 0, plan.panels - 2)) {
            return NONE;
        }
        learnOrders();
        int folded = 0;
        int bend = nextBend[0];
        for (int k = 0; k < i && bend != NONE; k++) {
            folded |= 1 << bend;
            bend = nextBend[folded >> 1];
        }
        return bend;
    }

    public int count(int what) {
        if (what == 0) {
            return plan.panels;
        }
        if (what != 1) {
            return NONE;
        }
        if (plan.panels == 0) {
            return 0;
        }
        learnOrders();
        int sets = 0;
        for (int bits = plan.allBends(); bits >= 0; bits -= 2) {
            if (nextBend[bits >> 1] != NONE) {
                sets++;
            }
        }
        return sets;
    }

    public int check() {
        fold.foldAll(plan, 0);
        if (!fold.isTrueTo(plan)) {
            return 0;
        }
        fold.foldAll(plan, plan.allBends());
        return fold.isTrueTo(plan) ? 1 : 0;
    }

    private static boolean isWithin(int value, int least, int greatest) {
        return value >= least && value <= greatest;
    }

    private static int opposite(int side) {
        return (side + 2) & 3;
    }

    /** East and north are the greatest places of their panel, west and south the least. */
    private static boolean isGreatest(int side) {
        return side == EAST || side == NORTH;
    }

    private static boolean isAcrossX(int side) {
        return side == EAST || side == WEST;
    }

    private boolean canBeAsked(int bits, int bend) {
        return plan.hasBend(bend) && plan.areBends(bits) && (bits >> bend & 1) == 0;
    }

    /** From the fullest set down, so that all to which a set can go on are known before it. */
    private void learnOrders() {
        if (ordersKnown) {
            return;
        }
        int all = plan.allBends();
        nextBend[all >> 1] = ALL_FOLDED;
        for (int bits = all - 2; bits >= 0; bits -= 2) {
            nextBend[bits >> 1] = leastThatGoesOn(bits);
        }
        ordersKnown = true;
    }

    private int leastThatGoesOn(int bits) {
        boolean isFolded = false;
        for (int bend = 1; bend < plan.panels; bend++) {
            int then = bits | 1 << bend;
            if (then == bits || nextBend[then >> 1] == NONE) {
                continue;
            }
            if (!isFolded) {
                fold.foldAll(plan, bits);
                isFolded = true;
            }
            if (fold.gaugeEdge(plan, bend, gauge) != NONE && turn.isFree(plan, fold, bend)) {
                return bend;
            }
        }
        return NONE;
    }

    /** The panels as they were joined, all in one plane. */
    private static final class Plan {
        private int panels = 0;
        private final int[] parent = new int[MOST_PANELS];
        /** The side of its parent to which a panel is joined. */
        private final int[] side = new int[MOST_PANELS];
        private final boolean[] up = new boolean[MOST_PANELS];
        /** The sides of a panel that have a bend, by bits. */
        private final int[] bent = new int[MOST_PANELS];
        /** By side and panel: the x of its east and west side, the y of its north and south side. */
        private final int[][] limit = new int[SIDES][MOST_PANELS];

        private void startAnew(int width, int height) {
            panels = 1;
            parent[0] = NONE;
            side[0] = NONE;
            up[0] = false;
            bent[0] = 0;
            limit[EAST][0] = width;
            limit[NORTH][0] = height;
            limit[WEST][0] = 0;
            limit[SOUTH][0] = 0;
        }

        private boolean hasPanel(int p) {
            return p >= 0 && p < panels;
        }

        private boolean hasBend(int bend) {
            return bend >= 1 && bend < panels;
        }

        private int allBends() {
            return panels == 0 ? 0 : (1 << panels) - 2;
        }

        private boolean areBends(int bits) {
            return (bits & ~allBends()) == 0;
        }

        private int width(int p) {
            return limit[EAST][p] - limit[WEST][p];
        }

        private int height(int p) {
            return limit[NORTH][p] - limit[SOUTH][p];
        }

        private int lengthOf(int p, int ofSide) {
            return isAcrossX(ofSide) ? height(p) : width(p);
        }

        private boolean isFreeSide(int p, int ofSide) {
            return (bent[p] >> ofSide & 1) == 0;
        }

        private boolean canBeJoined(int p, int toSide) {
            if (!hasPanel(p) || !isWithin(toSide, 0, SIDES - 1)) {
                return false;
            }
            return p == 0 || toSide != opposite(side[p]);
        }

        /** The caller has looked at all arguments. */
        private int join(int to, int toSide, int offset, int wide, int deep, boolean isUp) {
            int p = panels;
            int back = opposite(toSide);
            int begin = isAcrossX(toSide) ? SOUTH : WEST;
            panels++;
            parent[p] = to;
            side[p] = toSide;
            up[p] = isUp;
            bent[p] = 1 << back;
            bent[to] |= 1 << toSide;
            limit[back][p] = limit[toSide][to];
            limit[toSide][p] = limit[toSide][to] + (isGreatest(toSide) ? deep : -deep);
            limit[begin][p] = limit[begin][to] + offset;
            limit[opposite(begin)][p] = limit[begin][p] + wide;
            return p;
        }

        /** The least end of a bend, which panel and parent share however it is folded. */
        private int bendX(int bend) {
            return limit[side[bend] == WEST ? EAST : WEST][bend];
        }

        private int bendY(int bend) {
            return limit[side[bend] == SOUTH ? NORTH : SOUTH][bend];
        }

        private void turnOver() {
            int width = limit[EAST][0];
            for (int p = 0; p < panels; p++) {
                int oldEast = limit[EAST][p];
                limit[EAST][p] = width - limit[WEST][p];
                limit[WEST][p] = width - oldEast;
                bent[p] = (bent[p] & (1 << NORTH | 1 << SOUTH)) | (bent[p] >> WEST & 1) << EAST
                        | (bent[p] >> EAST & 1) << WEST;
                if (p > 0) {
                    side[p] = isAcrossX(side[p]) ? opposite(side[p]) : side[p];
                    up[p] = !up[p];
                }
            }
        }

        /** A panel and all joined to it further on; a parent has a lesser number than what is joined to it. */
        private int branchOf(int bend) {
            int bits = 1 << bend;
            for (int p = bend + 1; p < panels; p++) {
                if ((bits >> parent[p] & 1) == 1) {
                    bits |= 1 << p;
                }
            }
            return bits;
        }

        private int movingWith(int bend) {
            int branch = branchOf(bend);
            int many = Integer.bitCount(branch);
            return many <= panels - many ? branch : ((1 << panels) - 1) & ~branch;
        }
    }

    /** The flat pattern. */
    private static final class Pattern {
        private int panels = 0;
        /** By side and panel, as in the plan; where less than nothing is left of a panel, west lies east of east. */
        private final int[][] limit = new int[SIDES][MOST_PANELS];
        private final int[] shiftX = new int[MOST_PANELS];
        private final int[] shiftY = new int[MOST_PANELS];

        private void layOut(Plan plan, int deduction) {
            panels = plan.panels;
            moveTogether(plan, deduction);
            for (int p = 0; p < panels; p++) {
                takeOff(plan, p, deduction / 2);
            }
            beginAtZero(EAST, WEST);
            beginAtZero(NORTH, SOUTH);
        }

        private void moveTogether(Plan plan, int deduction) {
            shiftX[0] = 0;
            shiftY[0] = 0;
            for (int p = 1; p < panels; p++) {
                int to = plan.parent[p];
                int nearer = isGreatest(plan.side[p]) ? -deduction : deduction;
                boolean isInX = isAcrossX(plan.side[p]);
                shiftX[p] = shiftX[to] + (isInX ? nearer : 0);
                shiftY[p] = shiftY[to] + (isInX ? 0 : nearer);
            }
        }

        private void takeOff(Plan plan, int p, int half) {
            for (int side = 0; side < SIDES; side++) {
                int inward = plan.isFreeSide(p, side) ? 0 : isGreatest(side) ? -half : half;
                int shift = isAcrossX(side) ? shiftX[p] : shiftY[p];
                limit[side][p] = plan.limit[side][p] + inward + shift;
            }
        }

        private void beginAtZero(int greatest, int least) {
            int begin = limit[least][0];
            for (int p = 1; p < panels; p++) {
                begin = Math.min(begin, limit[least][p]);
            }
            for (int p = 0; p < panels; p++) {
                limit[least][p] -= begin;
                limit[greatest][p] -= begin;
            }
        }

        private int greatestOf(int side) {
            int greatest = limit[side][0];
            for (int p = 1; p < panels; p++) {
                greatest = Math.max(greatest, limit[side][p]);
            }
            return greatest;
        }

        private int firstWithoutInside() {
            for (int p = 0; p < panels; p++) {
                if (limit[EAST][p] <= limit[WEST][p] || limit[NORTH][p] <= limit[SOUTH][p]) {
                    return p;
                }
            }
            return NONE;
        }

        private int firstOverlap(int p) {
            for (int q = p + 1; q < panels; q++) {
                if (limit[WEST][p] < limit[EAST][q] && limit[WEST][q] < limit[EAST][p]
                        && limit[SOUTH][p] < limit[NORTH][q] && limit[SOUTH][q] < limit[NORTH][p]) {
                    return q;
                }
            }
            return NONE;
        }
    }

    /**
     * The panels in space with some bends folded. Only quarter turns occur, so a direction is an axis and a sign:
     * 1, 2, 3 for x, y, z and -1, -2, -3 against them.
     */
    private static final class Fold {
        /** Where the plan's east, the plan's north and the normal lead on each panel. */
        private final int[] eastward = new int[MOST_PANELS];
        private final int[] northward = new int[MOST_PANELS];
        private final int[] normal = new int[MOST_PANELS];
        /** By axis and panel: the panel's corner that is southwest in the plan. */
        private final int[][] corner = new int[AXES][MOST_PANELS];
        private final int[][] least = new int[AXES][MOST_PANELS];
        private final int[][] greatest = new int[AXES][MOST_PANELS];

        private void foldAll(Plan plan, int bits) {
            eastward[0] = 1;
            northward[0] = 2;
            normal[0] = 3;
            for (int axis = 0; axis < AXES; axis++) {
                corner[axis][0] = 0;
            }
            for (int p = 0; p < plan.panels; p++) {
                if (p > 0) {
                    setDirections(plan, p, (bits >> p & 1) == 1);
                    setCorner(plan, p);
                }
                setBox(plan, p);
            }
        }

        private void setDirections(Plan plan, int p, boolean isFolded) {
            int to = plan.parent[p];
            int side = plan.side[p];
            eastward[p] = eastward[to];
            northward[p] = northward[to];
            normal[p] = normal[to];
            if (!isFolded) {
                return;
            }
            int away = awayFrom(to, side);
            int stands = plan.up[p] ? normal[to] : -normal[to];
            normal[p] = plan.up[p] ? -away : away;
            int greater = isGreatest(side) ? stands : -stands;
            if (isAcrossX(side)) {
                eastward[p] = greater;
            } else {
                northward[p] = greater;
            }
        }

        private void setCorner(Plan plan, int p) {
            int to = plan.parent[p];
            int x = plan.bendX(p);
            int y = plan.bendY(p);
            int inX = x - plan.limit[WEST][p];
            int inY = y - plan.limit[SOUTH][p];
            for (int axis = 0; axis < AXES; axis++) {
                corner[axis][p] = inSpace(plan, to, x, y, axis)
                        - inX * share(eastward[p], axis) - inY * share(northward[p], axis);
            }
        }

        private void setBox(Plan plan, int p) {
            for (int axis = 0; axis < AXES; axis++) {
                int far = corner[axis][p] + plan.width(p) * share(eastward[p], axis)
                        + plan.height(p) * share(northward[p], axis);
                least[axis][p] = Math.min(corner[axis][p], far);
                greatest[axis][p] = Math.max(corner[axis][p], far);
            }
        }

        /** Where a point of the plan is on one axis, when it goes with that panel. */
        private int inSpace(Plan plan, int p, int x, int y, int axis) {
            return corner[axis][p] + (x - plan.limit[WEST][p]) * share(eastward[p], axis)
                    + (y - plan.limit[SOUTH][p]) * share(northward[p], axis);
        }

        private static int share(int direction, int axis) {
            if (direction == axis + 1) {
                return 1;
            }
            return direction == -axis - 1 ? -1 : 0;
        }

        private static int axisOf(int direction) {
            return (direction < 0 ? -direction : direction) - 1;
        }

        private int awayFrom(int p, int side) {
            int greater = isAcrossX(side) ? eastward[p] : northward[p];
            return isGreatest(side) ? greater : -greater;
        }

        private int axisAlong(int p, int side) {
            return axisOf(isAcrossX(side) ? northward[p] : eastward[p]);
        }

        private int greatestAlong(int p, int direction) {
            int axis = axisOf(direction);
            return direction > 0 ? greatest[axis][p] : -least[axis][p];
        }

        private int spanAlong(int p, int direction) {
            int axis = axisOf(direction);
            return greatest[axis][p] - least[axis][p];
        }

        /** Whether some point of panel p that is not on its edges is a point of panel q. */
        private boolean isEntered(int p, int q) {
            for (int axis = 0; axis < AXES; axis++) {
                int low = least[axis][p];
                int high = greatest[axis][p];
                boolean isCommon = low == high
                        ? least[axis][q] <= low && low <= greatest[axis][q]
                        : least[axis][q] < high && low < greatest[axis][q];
                if (!isCommon) {
                    return false;
                }
            }
            return true;
        }

        private int gaugeEdge(Plan plan, int bend, int gauge) {
            int axis = axisAlong(plan.parent[bend], plan.side[bend]);
            for (int p = 0; p < plan.panels; p++) {
                for (int side = 0; side < SIDES; side++) {
                    if (plan.isFreeSide(p, side) && plan.lengthOf(p, side) >= gauge && axisAlong(p, side) == axis) {
                        return 4 * p + side;
                    }
                }
            }
            return NONE;
        }

        private boolean isTrueTo(Plan plan) {
            for (int p = 0; p < plan.panels; p++) {
                if (spanAlong(p, eastward[p]) != plan.width(p) || spanAlong(p, northward[p]) != plan.height(p)
                        || spanAlong(p, normal[p]) != 0) {
                    return false;
                }
                if (p > 0 && !isBendShared(plan, p)) {
                    return false;
                }
            }
            return true;
        }

        /** Both ends of a bend are at the same place, whether they go with the panel or with its parent. */
        private boolean isBendShared(Plan plan, int p) {
            int to = plan.parent[p];
            boolean isAlongY = isAcrossX(plan.side[p]);
            int nearX = plan.bendX(p);
            int nearY = plan.bendY(p);
            int farX = isAlongY ? nearX : plan.limit[EAST][p];
            int farY = isAlongY ? plan.limit[NORTH][p] : nearY;
            for (int axis = 0; axis < AXES; axis++) {
                if (inSpace(plan, p, nearX, nearY, axis) != inSpace(plan, to, nearX, nearY, axis)
                        || inSpace(plan, p, farX, farY, axis) != inSpace(plan, to, farX, farY, axis)) {
                    return false;
                }
            }
            return true;
        }
    }

    /** The turn of one bend: what each panel sweeps about it. */
    private static final class Turn {
        /** By quadrant: the directions u, v, against u, against v, with which the quadrants 0 to 3 begin. */
        private final int[] begins = new int[QUADRANTS];
        private int axisOfBend = 0;
        /** By direction of begins, for the panel that is being measured: how far it goes from the bend. */
        private final int[] reach = new int[QUADRANTS];
        /**
         * By quadrant and panel: the band, 0 to 0 where there is none, as a band without length has no stretch in
         * common with any. All panels are within 26000 of the bend on each axis, so that the squares fit an int.
         */
        private final int[][] inner = new int[QUADRANTS][MOST_PANELS];
        private final int[][] outer = new int[QUADRANTS][MOST_PANELS];

        private boolean isFree(Plan plan, Fold fold, int bend) {
            setDirections(plan, fold, bend);
            for (int p = 0; p < plan.panels; p++) {
                setBands(fold, plan.parent[bend], p);
            }
            int moving = plan.movingWith(bend);
            // The panels on the parent's side turn the other way: three quadrants on are one back.
            int onward = (moving >> bend & 1) == 1 ? 1 : 3;
            for (int p = 0; p < plan.panels; p++) {
                if ((moving >> p & 1) == 1 && hitsFixed(plan, fold, bend, moving, p, onward)) {
                    return false;
                }
            }
            return true;
        }

        private void setDirections(Plan plan, Fold fold, int bend) {
            int to = plan.parent[bend];
            int away = fold.awayFrom(to, plan.side[bend]);
            int stands = plan.up[bend] ? fold.normal[to] : -fold.normal[to];
            begins[0] = away;
            begins[1] = stands;
            begins[2] = -away;
            begins[3] = -stands;
            axisOfBend = fold.axisAlong(to, plan.side[bend]);
        }

        private void setBands(Fold fold, int parent, int p) {
            // The bend is the farthest of its parent away from it, and in its parent's plane.
            int bendU = fold.greatestAlong(parent, begins[0]);
            int bendV = fold.greatestAlong(parent, begins[1]);
            reach[0] = fold.greatestAlong(p, begins[0]) - bendU;
            reach[1] = fold.greatestAlong(p, begins[1]) - bendV;
            reach[2] = fold.greatestAlong(p, begins[2]) + bendU;
            reach[3] = fold.greatestAlong(p, begins[3]) + bendV;
            for (int q = 0; q < QUADRANTS; q++) {
                int first = reach[q];
                int second = reach[(q + 1) & 3];
                boolean isThere = first > 0 && second >= 0;
                int nearFirst = Math.max(0, -reach[(q + 2) & 3]);
                int nearSecond = Math.max(0, -reach[(q + 3) & 3]);
                inner[q][p] = isThere ? nearFirst * nearFirst + nearSecond * nearSecond : 0;
                outer[q][p] = isThere ? first * first + second * second : 0;
            }
        }

        private boolean hitsFixed(Plan plan, Fold fold, int bend, int moving, int p, int onward) {
            for (int f = 0; f < plan.panels; f++) {
                boolean areJoined = p == bend && f == plan.parent[bend] || f == bend && p == plan.parent[bend];
                if ((moving >> f & 1) == 0 && !areJoined && isBeside(fold, p, f) && areBandsCommon(p, f, onward)) {
                    return true;
                }
            }
            return false;
        }

        /** Whether the ranges along the bend have more than their ends in common. */
        private boolean isBeside(Fold fold, int p, int f) {
            int lowP = fold.least[axisOfBend][p];
            int highP = fold.greatest[axisOfBend][p];
            int lowF = fold.least[axisOfBend][f];
            int highF = fold.greatest[axisOfBend][f];
            if (lowP == highP && lowF == highF) {
                return lowP == lowF;
            }
            return lowP < highF && lowF < highP;
        }

        private boolean areBandsCommon(int moving, int fixed, int onward) {
            for (int q = 0; q < QUADRANTS; q++) {
                int next = (q + onward) & 3;
                int low = inner[q][moving];
                int high = outer[q][moving];
                if (Math.max(low, inner[q][fixed]) < Math.min(high, outer[q][fixed])
                        || Math.max(low, inner[next][fixed]) < Math.min(high, outer[next][fixed])) {
                    return true;
                }
            }
            return false;
        }
    }
}
