/** Parts that several tests use, and rows of questions about a part. */
final class Parts {
    static final int NONE = SheetFolder.NONE;
    static final int NOWHERE = SheetFolder.NOWHERE;
    static final int LEAST = Integer.MIN_VALUE;
    static final int GREATEST = Integer.MAX_VALUE;
    static final int EAST = 0;
    static final int NORTH = 1;
    static final int WEST = 2;
    static final int SOUTH = 3;
    static final int UP = 1;
    static final int DOWN = 0;

    private Parts() {
    }

    static SheetFolder based(int width, int height) {
        SheetFolder x = new SheetFolder();
        Due.due("base(" + width + ", " + height + ")", x.base(width, height), 1);
        return x;
    }

    /** One more panel, which has to be taken. */
    static int join(SheetFolder x, int parent, int side, int offset, int wide, int deep, int up) {
        int number = x.count(0);
        Due.due("panel(" + parent + ", " + side + ", " + offset + ", " + wide + ", " + deep + ", " + up + ")",
                x.panel(parent, side, offset, wide, deep, up), number);
        return number;
    }

    /** Panel 1 east of the base, up; panel 2 north of panel 1, down. */
    static SheetFolder corner() {
        SheetFolder x = based(100, 80);
        join(x, 0, EAST, 10, 50, 30, UP);
        join(x, 1, NORTH, 5, 20, 15, DOWN);
        return x;
    }

    /** A chain to the east, all up: panel 1 is 50 deep, panel 2 as deep as is said. */
    static SheetFolder channel(int deep) {
        SheetFolder x = based(100, 100);
        join(x, 0, EAST, 0, 100, 50, UP);
        join(x, 1, EAST, 0, 100, deep, UP);
        return x;
    }

    static SheetFolder flanges(int count) {
        SheetFolder x = based(1000, 1000);
        for (int k = 0; k < count; k++) {
            join(x, 0, k % 4, k / 4 * 300, 200, 100, UP);
        }
        return x;
    }

    static void duePlace(String name, SheetFolder x, int bits, int p, int... want) {
        for (int what = 0; what < 6; what++) {
            Due.due(name + " place(" + bits + ", " + p + ", " + what + ")", x.place(bits, p, what), want[what]);
        }
    }

    static void dueFlat(String name, SheetFolder x, int p, int... want) {
        for (int what = 0; what < 4; what++) {
            Due.due(name + " flatOf(" + p + ", " + what + ")", x.flatOf(p, what), want[what]);
        }
    }

    static void dueWrong(String name, SheetFolder x, int flat, int panel, int other) {
        Due.due(name + " flat()", x.flat(), flat);
        Due.due(name + " wrong(0)", x.wrong(0), panel);
        Due.due(name + " wrong(1)", x.wrong(1), other);
    }

    static void dueSteps(String name, SheetFolder x, int... want) {
        Due.due(name + " order()", x.order(), want.length);
        for (int i = 0; i < want.length; i++) {
            Due.due(name + " step(" + i + ")", x.step(i), want[i]);
        }
        Due.due(name + " step after the last", x.step(want.length), NONE);
    }

    static void dueNoOrder(String name, SheetFolder x) {
        Due.due(name + " order()", x.order(), NONE);
        for (int i = -1; i < 14; i++) {
            Due.due(name + " step(" + i + ")", x.step(i), NONE);
        }
    }

    /** All that a part shows but for wrong(), as text. */
    static String shown(SheetFolder x) {
        StringBuilder text = new StringBuilder();
        int panels = x.count(0);
        int all = panels == 0 ? 0 : (1 << panels) - 2;
        for (int p = 0; p < panels; p++) {
            for (int what = 0; what < 6; what++) {
                text.append(x.place(0, p, what)).append(' ').append(x.place(all, p, what)).append(' ');
                text.append(x.flatOf(p, what)).append(' ');
            }
            text.append(x.moves(p)).append(' ').append(x.clear(0, p)).append(' ').append(x.edge(0, p)).append(' ');
            text.append(x.step(p)).append('\n');
        }
        return text.append(panels).append(' ').append(x.size(0)).append(' ').append(x.size(1)).append(' ')
                .append(x.meets(0)).append(' ').append(x.meets(all)).append(' ').append(x.order()).append(' ')
                .append(x.count(1)).append(' ').append(x.check()).toString();
    }
}
