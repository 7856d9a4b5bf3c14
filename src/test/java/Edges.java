import java.util.Arrays;

/** What the tests of edges have in common. */
final class Edges {
    static final int LOW = Integer.MIN_VALUE, HIGH = Integer.MAX_VALUE;
    static final int NO_SUCH = -1, BAD_VALUE = -2, BAD_TEXT = -3, TOO_MANY = -4, NOT_POSSIBLE = -5, NONE = -6;
    static final int LEAST = 2, MOST = 8;

    private Edges() {
    }

    /** Numbers that are not from 0 up to a bound, those that would wrap around in a shift or a mask too. */
    static int[] outside(int bound) {
        int[] numbers = {-1, -2, -bound, -bound - 1, bound, bound + 1, 31, 32, 33, 63, 64, 65, bound + 32, bound + 64,
            128, 255, 256, 1 << 16, LOW, LOW + 1, HIGH - 1, HIGH};
        return Arrays.stream(numbers).filter(number -> number < 0 || number >= bound).distinct().toArray();
    }

    static RouteProofs sized(int width, int height) {
        RouteProofs x = new RouteProofs();
        x.setUp(width, height);
        return x;
    }

    /** In how many orders so many steps right can stand among all steps: the routes across an open grid. */
    static long binomial(int of, int chosen) {
        long result = 1;
        for (int index = 1; index <= chosen; index++) {
            result = result * (of - chosen + index) / index;
        }
        return result;
    }

    /** Steps along cells in a slot. */
    static void go(RouteProofs x, int slot, int... cells) {
        for (int cell : cells) {
            x.step(slot, cell);
        }
    }

    /** All cells in one route: to and fro, row by row. */
    static int[] snake(int width, int height) {
        int[] cells = new int[width * height];
        for (int index = 0; index < cells.length; index++) {
            int y = index / width;
            int x = index % width;
            cells[index] = y * width + (y % 2 == 0 ? x : width - 1 - x);
        }
        return cells;
    }

    static void pairs(RouteProofs x, int... cells) {
        for (int index = 0; index < cells.length; index += 2) {
            x.pair(cells[index], cells[index + 1]);
        }
    }

    /** A text of some rows of the same sign. */
    static String text(int width, int height, String sign) {
        String row = sign.repeat(width);
        return row + ("/" + row).repeat(height - 1);
    }

    /** An object in which there is something of everything; the pad is left empty. */
    static RouteProofs busy() {
        RouteProofs x = Texts.grid("ssm#.t/.mm..t/.#.mST/....m./.M....");
        for (int cell = 0; cell < 30; cell += 4) {
            x.wire(cell / 4 % 4, cell);
            x.wire(3, cell);
        }
        pairs(x, 0, 14, 6, 18, 9, 11);
        go(x, 0, 0, 1, 2, 8);
        go(x, 1, 6, 7, 8, 9);
        go(x, 2, 24);
        go(x, 4, 5, 11, 10, 9, 15);
        return x;
    }
}
