import java.util.ArrayList;
import java.util.HashSet;
import java.util.List;
import java.util.Random;
import java.util.Set;

/**
 * Small parts, made by a fixed row of numbers, against answers counted out point by point from the document's words.
 * All lengths inside are doubled, so that the points between two whole places are whole numbers too. A part is made
 * anew on another object for each set of folded bends, so that none of them is used for more than 512 calls.
 */
public final class OracleTest {
    private static final int PARTS = 400;
    private static final int MOST = 6;

    private OracleTest() {
    }

    public static void main(String[] args) {
        Random random = new Random(20261115L);
        int[] seen = new int[6];
        for (int i = 0; i < PARTS; i++) {
            Part part = Part.make(random, i % 4 == 3);
            compare("part " + i, part, seen);
        }
        // Parts that never show one of the answers would not test it.
        String[] names = {"clear", "not clear", "meets", "an order", "no order", "an order not by numbers"};
        for (int k = 0; k < seen.length; k++) {
            Due.dueTrue("some parts have " + names[k] + ": " + seen[k], seen[k] > 5);
        }
        Due.end();
    }

    private static void compare(String name, Part part, int[] seen) {
        int n = part.rows.size();
        compareFlat(name, part);
        for (int bits = 0; bits < 1 << n; bits += 2) {
            SheetFolder x = part.renew();
            comparePlaces(name + " bits " + bits, part, bits);
            int meets = part.meets(bits);
            seen[2] += meets > 0 ? 1 : 0;
            Due.due(name + " meets(" + bits + ")", x.meets(bits), meets);
            for (int bend = 1; bend < n; bend++) {
                if ((bits >> bend & 1) == 0) {
                    int clear = part.clear(bits, bend) ? 1 : 0;
                    seen[1 - clear]++;
                    part.can[bits][bend] = clear == 1 && part.edge(bits, bend) >= 0;
                    Due.due(name + " clear(" + bits + ", " + bend + ")", x.clear(bits, bend), clear);
                    Due.due(name + " edge(" + bits + ", " + bend + ")", x.edge(bits, bend), part.edge(bits, bend));
                }
            }
        }
        compareOrder(name, part, seen);
    }

    private static void compareFlat(String name, Part part) {
        SheetFolder x = part.renew();
        int[] want = part.flat();
        Due.due(name + " count(0)", x.count(0), part.rows.size());
        Due.due(name + " check()", x.check(), 1);
        Due.due(name + " flat()", x.flat(), want[0]);
        Due.due(name + " wrong(0)", x.wrong(0), want[1]);
        Due.due(name + " wrong(1)", x.wrong(1), want[2]);
        int[][] places = part.flatPlaces();
        int[] greatest = {Integer.MIN_VALUE, Integer.MIN_VALUE};
        for (int p = 0; p < places.length; p++) {
            for (int what = 0; what < 4; what++) {
                Due.due(name + " flatOf(" + p + ", " + what + ")", x.flatOf(p, what), places[p][what]);
            }
            greatest[0] = Math.max(greatest[0], places[p][2]);
            greatest[1] = Math.max(greatest[1], places[p][3]);
        }
        Due.due(name + " size(0)", x.size(0), greatest[0]);
        Due.due(name + " size(1)", x.size(1), greatest[1]);
    }

    private static void comparePlaces(String name, Part part, int bits) {
        for (int p = 0; p < part.rows.size(); p++) {
            Row row = part.rows.get(p);
            int[] a = part.carried(bits, p, row.x0, row.y0, 0);
            int[] b = part.carried(bits, p, row.x1, row.y1, 0);
            for (int axis = 0; axis < 3; axis++) {
                Due.due(name + " least " + axis + " of " + p, part.folder.place(bits, p, axis),
                        Math.min(a[axis], b[axis]) / 2);
                Due.due(name + " greatest " + axis + " of " + p, part.folder.place(bits, p, axis + 3),
                        Math.max(a[axis], b[axis]) / 2);
            }
        }
    }

    private static void compareOrder(String name, Part part, int[] seen) {
        SheetFolder x = part.renew();
        int n = part.rows.size();
        List<Integer> order = part.leastOrder(0);
        Due.due(name + " order()", x.order(), order == null ? -1 : n - 1);
        boolean isByNumbers = true;
        for (int i = 0; i < n; i++) {
            int want = order == null || i >= order.size() ? -1 : order.get(i);
            isByNumbers &= i >= n - 1 || want == i + 1;
            Due.due(name + " step(" + i + ")", x.step(i), want);
        }
        int sets = 0;
        for (int bits = 0; bits < 1 << n; bits += 2) {
            sets += part.leastOrder(bits) == null ? 0 : 1;
        }
        Due.due(name + " count(1)", x.count(1), sets);
        seen[order == null ? 4 : 3]++;
        seen[5] += order != null && !isByNumbers ? 1 : 0;
    }

    /** One panel, as the document tells it, its places in the plan doubled. */
    private static final class Row {
        int parent;
        int side;
        boolean up;
        int x0;
        int y0;
        int x1;
        int y1;
    }

    private static final class Part {
        SheetFolder folder;
        final List<int[]> made = new ArrayList<>();
        final List<Row> rows = new ArrayList<>();
        final boolean[][] can = new boolean[1 << MOST][MOST];
        boolean isOver;
        int deduction;
        int gauge;

        static Part make(Random random, boolean turnedOver) {
            Part part = new Part();
            Row base = new Row();
            base.parent = -1;
            base.side = -1;
            base.x1 = 2 * (1 + random.nextInt(6));
            base.y1 = 2 * (1 + random.nextInt(6));
            part.rows.add(base);
            int panels = 2 + random.nextInt(MOST - 1);
            // A part of one kind of side, or nearly, has more chains and hooks in it.
            int kind = random.nextInt(3);
            for (int tries = 0; tries < 60 && part.rows.size() < panels; tries++) {
                part.join(random, kind);
            }
            if (turnedOver) {
                part.turnOver();
            }
            part.deduction = 2 * random.nextInt(3);
            part.gauge = 1 + random.nextInt(random.nextBoolean() ? 2 : 5);
            part.isOver = turnedOver;
            return part;
        }

        /** The same part on a new object. */
        SheetFolder renew() {
            folder = new SheetFolder();
            folder.base(rows.get(0).x1 / 2, rows.get(0).y1 / 2);
            for (int[] a : made) {
                Due.due("panel", folder.panel(a[0], a[1], a[2], a[3], a[4], a[5]), a[6]);
            }
            if (isOver) {
                Due.due("over()", folder.over(), 1);
            }
            folder.deduction(deduction);
            folder.gauge(gauge);
            return folder;
        }

        private void join(Random random, int kind) {
            int parent = random.nextInt(3) > 0 ? rows.size() - 1 : random.nextInt(rows.size());
            int side = kind == 0 ? 0 : kind == 1 ? 2 * random.nextInt(2) : random.nextInt(4);
            Row to = rows.get(parent);
            int length = (side % 2 == 0 ? to.y1 - to.y0 : to.x1 - to.x0) / 2;
            int wide = 1 + random.nextInt(length);
            int offset = random.nextInt(length - wide + 1);
            int deep = 1 + random.nextInt(6);
            int up = random.nextInt(4) == 0 ? 0 : 1;
            boolean isRefused = parent > 0 && (side + 2) % 4 == to.side;
            made.add(new int[] {parent, side, offset, wide, deep, up, isRefused ? -1 : rows.size()});
            if (isRefused) {
                return;
            }
            Row row = new Row();
            row.parent = parent;
            row.side = side;
            row.up = up == 1;
            if (side % 2 == 0) {
                row.x0 = side == 0 ? to.x1 : to.x0 - 2 * deep;
                row.x1 = row.x0 + 2 * deep;
                row.y0 = to.y0 + 2 * offset;
                row.y1 = row.y0 + 2 * wide;
            } else {
                row.y0 = side == 1 ? to.y1 : to.y0 - 2 * deep;
                row.y1 = row.y0 + 2 * deep;
                row.x0 = to.x0 + 2 * offset;
                row.x1 = row.x0 + 2 * wide;
            }
            rows.add(row);
        }

        private void turnOver() {
            int width = rows.get(0).x1;
            for (Row row : rows) {
                int x0 = row.x0;
                row.x0 = width - row.x1;
                row.x1 = width - x0;
                row.side = row.side == 0 ? 2 : row.side == 2 ? 0 : row.side;
                row.up = !row.up;
            }
        }

        private boolean isBranch(int bend, int p) {
            int q = p;
            while (q > bend) {
                q = rows.get(q).parent;
            }
            return q == bend;
        }

        private boolean hasBend(int p, int side) {
            if (p > 0 && (rows.get(p).side + 2) % 4 == side) {
                return true;
            }
            for (Row row : rows) {
                if (row.parent == p && row.side == side) {
                    return true;
                }
            }
            return false;
        }

        private int lineOf(int bend) {
            Row row = rows.get(bend);
            int[] line = {row.x0, row.y0, row.x1, row.y1};
            return line[row.side];
        }

        /**
         * Where a point of the plan comes to, when it goes with panel p: the last bend is folded first, while all
         * before it still lies flat, so that every fold is about a line of the plan.
         */
        int[] carried(int bits, int p, int x, int y, int z) {
            int[] at = {x, y, z};
            for (int bend = rows.size() - 1; bend > 0; bend--) {
                if ((bits >> bend & 1) == 1 && isBranch(bend, p)) {
                    Row row = rows.get(bend);
                    int axis = row.side % 2;
                    int outward = row.side < 2 ? 1 : -1;
                    int away = (at[axis] - lineOf(bend)) * outward;
                    int height = at[2];
                    int up = row.up ? 1 : -1;
                    at[2] = up * away;
                    at[axis] = lineOf(bend) - outward * up * height;
                }
            }
            return at;
        }

        int[][] flatPlaces() {
            int n = rows.size();
            int[][] places = new int[n][];
            int[] least = {Integer.MAX_VALUE, Integer.MAX_VALUE};
            for (int p = 0; p < n; p++) {
                Row row = rows.get(p);
                int half = deduction / 2;
                int x = 0;
                int y = 0;
                for (int q = p; q > 0; q = rows.get(q).parent) {
                    int side = rows.get(q).side;
                    x += side == 0 ? -deduction : side == 2 ? deduction : 0;
                    y += side == 1 ? -deduction : side == 3 ? deduction : 0;
                }
                places[p] = new int[] {
                    row.x0 / 2 + x + (hasBend(p, 2) ? half : 0), row.y0 / 2 + y + (hasBend(p, 3) ? half : 0),
                    row.x1 / 2 + x - (hasBend(p, 0) ? half : 0), row.y1 / 2 + y - (hasBend(p, 1) ? half : 0)};
                least[0] = Math.min(least[0], places[p][0]);
                least[1] = Math.min(least[1], places[p][1]);
            }
            for (int[] place : places) {
                for (int k = 0; k < 4; k++) {
                    place[k] -= least[k % 2];
                }
            }
            return places;
        }

        int[] flat() {
            int[][] places = flatPlaces();
            List<Set<Integer>> squares = new ArrayList<>();
            for (int p = 0; p < places.length; p++) {
                Set<Integer> set = new HashSet<>();
                for (int x = places[p][0]; x < places[p][2]; x++) {
                    for (int y = places[p][1]; y < places[p][3]; y++) {
                        set.add(x * 1000 + y);
                    }
                }
                if (set.isEmpty()) {
                    return new int[] {1, p, -1};
                }
                squares.add(set);
            }
            for (int p = 0; p < places.length; p++) {
                for (int q = p + 1; q < places.length; q++) {
                    Set<Integer> common = new HashSet<>(squares.get(p));
                    common.retainAll(squares.get(q));
                    if (!common.isEmpty()) {
                        return new int[] {2, p, q};
                    }
                }
            }
            return new int[] {0, -1, -1};
        }

        private Set<Integer> points(int bits, int p, int margin) {
            Row row = rows.get(p);
            Set<Integer> set = new HashSet<>();
            for (int x = row.x0 + margin; x <= row.x1 - margin; x++) {
                for (int y = row.y0 + margin; y <= row.y1 - margin; y++) {
                    int[] at = carried(bits, p, x, y, 0);
                    set.add((at[0] + 500) * 1000000 + (at[1] + 500) * 1000 + at[2] + 500);
                }
            }
            return set;
        }

        int meets(int bits) {
            int pairs = 0;
            for (int p = 0; p < rows.size(); p++) {
                for (int q = p + 1; q < rows.size(); q++) {
                    if (rows.get(q).parent != p && (isCommon(points(bits, p, 1), points(bits, q, 0))
                            || isCommon(points(bits, p, 0), points(bits, q, 1)))) {
                        pairs++;
                    }
                }
            }
            return pairs;
        }

        private static boolean isCommon(Set<Integer> a, Set<Integer> b) {
            for (Integer point : a) {
                if (b.contains(point)) {
                    return true;
                }
            }
            return false;
        }

        private boolean isMoving(int bend, int p) {
            int branch = 0;
            for (int q = 0; q < rows.size(); q++) {
                branch += isBranch(bend, q) ? 1 : 0;
            }
            boolean branchMoves = branch <= rows.size() - branch;
            return isBranch(bend, p) == branchMoves;
        }

        boolean clear(int bits, int bend) {
            int n = rows.size();
            int bitsThatMove = 0;
            Swept[] swept = new Swept[n];
            for (int p = 0; p < n; p++) {
                bitsThatMove |= isMoving(bend, p) ? 1 << p : 0;
                swept[p] = new Swept(this, bits, bend, p);
            }
            Due.due("moves(" + bend + ")", folder.moves(bend), bitsThatMove);
            int onward = isMoving(bend, bend) ? 1 : -1;
            for (int m = 0; m < n; m++) {
                for (int f = 0; f < n; f++) {
                    boolean isBendItself = m == bend && f == rows.get(bend).parent
                            || f == bend && m == rows.get(bend).parent;
                    if (isMoving(bend, m) && !isMoving(bend, f) && !isBendItself
                            && swept[m].hits(swept[f], onward)) {
                        return false;
                    }
                }
            }
            return true;
        }

        int edge(int bits, int bend) {
            Row row = rows.get(bend);
            int[] wanted = difference(bits, row.parent, row.side % 2 == 1);
            for (int p = 0; p < rows.size(); p++) {
                for (int side = 0; side < 4; side++) {
                    Row of = rows.get(p);
                    int length = (side % 2 == 0 ? of.y1 - of.y0 : of.x1 - of.x0) / 2;
                    int[] along = difference(bits, p, side % 2 == 1);
                    int dot = along[0] * wanted[0] + along[1] * wanted[1] + along[2] * wanted[2];
                    if (!hasBend(p, side) && length >= gauge && dot != 0) {
                        return 4 * p + side;
                    }
                }
            }
            return -1;
        }

        private int[] difference(int bits, int p, boolean alongX) {
            int[] a = carried(bits, p, 0, 0, 0);
            int[] b = carried(bits, p, alongX ? 1 : 0, alongX ? 0 : 1, 0);
            return new int[] {b[0] - a[0], b[1] - a[1], b[2] - a[2]};
        }

        List<Integer> leastOrder(int bits) {
            if (bits == (1 << rows.size()) - 2) {
                return new ArrayList<>();
            }
            for (int bend = 1; bend < rows.size(); bend++) {
                if ((bits >> bend & 1) == 0 && can[bits][bend]) {
                    List<Integer> rest = leastOrder(bits | 1 << bend);
                    if (rest != null) {
                        rest.add(0, bend);
                        return rest;
                    }
                }
            }
            return null;
        }
    }

    /** One panel about a bend, taken to pieces: inner points of squares, inner points of lines, and corners. */
    private static final class Swept {
        private final long[] least = {-1, -1, -1, -1};
        private final long[] greatest = {-1, -1, -1, -1};
        private final Set<Integer> along = new HashSet<>();
        private final int[] origin;
        private final int[] u;
        private final int[] v;
        private final int[] w;

        Swept(Part part, int bits, int bend, int p) {
            Row row = part.rows.get(bend);
            int to = row.parent;
            int x = row.side == 2 ? row.x1 : row.x0;
            int y = row.side == 3 ? row.y1 : row.y0;
            int outward = row.side < 2 ? 1 : -1;
            boolean isInX = row.side % 2 == 0;
            origin = part.carried(bits, to, x, y, 0);
            u = minus(part.carried(bits, to, x + (isInX ? outward : 0), y + (isInX ? 0 : outward), 0));
            v = minus(part.carried(bits, to, x, y, row.up ? 1 : -1));
            w = minus(part.carried(bits, to, x + (isInX ? 0 : 1), y + (isInX ? 1 : 0), 0));
            takeAll(part, bits, p);
        }

        private int[] minus(int[] at) {
            return new int[] {at[0] - origin[0], at[1] - origin[1], at[2] - origin[2]};
        }

        private static int dot(int[] a, int[] b) {
            return a[0] * b[0] + a[1] * b[1] + a[2] * b[2];
        }

        private void takeAll(Part part, int bits, int p) {
            Row row = part.rows.get(p);
            int low = Integer.MAX_VALUE;
            int high = Integer.MIN_VALUE;
            for (int x = row.x0; x <= row.x1; x++) {
                for (int y = row.y0; y <= row.y1; y++) {
                    int[] at = minus(part.carried(bits, p, x, y, 0));
                    int quadrant = quadrantOf(dot(at, u), dot(at, v));
                    low = Math.min(low, dot(at, w));
                    high = Math.max(high, dot(at, w));
                    if (quadrant >= 0) {
                        takePiece(part, bits, p, x, y, quadrant);
                    }
                }
            }
            for (int place = low; place <= high; place++) {
                if (low == high || place > low && place < high) {
                    along.add(place);
                }
            }
        }

        /** A piece with odd places is open there: its limits are the whole places beside it. */
        private void takePiece(Part part, int bits, int p, int x, int y, int quadrant) {
            int openX = Math.floorMod(x, 2);
            int openY = Math.floorMod(y, 2);
            for (int dx = -openX; dx <= openX; dx += 1 + openX) {
                for (int dy = -openY; dy <= openY; dy += 1 + openY) {
                    int[] at = minus(part.carried(bits, p, x + dx, y + dy, 0));
                    long square = (long) dot(at, u) * dot(at, u) + (long) dot(at, v) * dot(at, v);
                    least[quadrant] = least[quadrant] < 0 ? square : Math.min(least[quadrant], square);
                    greatest[quadrant] = Math.max(greatest[quadrant], square);
                }
            }
        }

        private static int quadrantOf(int atU, int atV) {
            if (atU > 0 && atV >= 0) {
                return 0;
            }
            if (atU <= 0 && atV > 0) {
                return 1;
            }
            if (atU < 0 && atV <= 0) {
                return 2;
            }
            return atU >= 0 && atV < 0 ? 3 : -1;
        }

        boolean hits(Swept fixed, int onward) {
            if (!Part.isCommon(along, fixed.along)) {
                return false;
            }
            for (int q = 0; q < 4; q++) {
                if (isStretch(q, fixed, q) || isStretch(q, fixed, Math.floorMod(q + onward, 4))) {
                    return true;
                }
            }
            return false;
        }

        private boolean isStretch(int mine, Swept fixed, int theirs) {
            if (least[mine] < 0 || fixed.least[theirs] < 0) {
                return false;
            }
            return Math.max(least[mine], fixed.least[theirs]) < Math.min(greatest[mine], fixed.greatest[theirs]);
        }
    }
}
