/** The sentences of the description, from the numbers of cells to the pairs, one by one. */
public final class DescriptionTest {
    private static final int NO_SUCH = -1, BAD_VALUE = -2, TOO_MANY = -4, NOT_POSSIBLE = -5, NONE = -6;
    private static final String[] GRIDS = {"../..", "#./.#", "..#/#../...", ".#./##./...", "..#../#...#/.#.#./.....", ".#.#.#.#/.......#/#.#...#.",
        "......../#######./........", "...../.###./...../.#.#./....."};
    private static final Sentences DOC = new Sentences("DescriptionTest");

    private DescriptionTest() {
    }

    public static void main(String[] args) {
        DOC.section("Description");
        numbers();
        sizes();
        cellNumbers();
        rolesAtFirst();
        rolesOfWalls();
        switches();
        switchesTurned();
        adjacent();
        freeRoutes();
        fallingRoutes();
        oneCell();
        behind();
        pairs();
        tuples();
        determinant();
        DOC.endWithDescription("Everything is numbered", "Sources and targets are");
    }

    private static void due(String call, long got, long want) {
        DOC.due(call, got, want);
    }

    private static void numbers() {
        DOC.says("Everything is numbered from 0.");
        RouteProofs x = Texts.grid("st/m.");
        due("cell 0", x.cell(0, 1), 1);
        due("cell -1", x.cell(-1, 1), NO_SUCH);
        due("cell 4 of four", x.cell(4, 1), NO_SUCH);
        due("switch 0", x.wire(0, 3), 1);
        due("switch -1", x.wire(-1, 3), NO_SUCH);
        due("slot 0", x.step(0, 2), 1);
        due("slot -1", x.step(-1, 2), NO_SUCH);
        due("pair 0", x.pair(0, 3), 0);
        due("pair 1", x.pair(0, 3), 1);
        due("place 0", x.save(0), 0);
        due("place -1", x.save(-1), BAD_VALUE);
        due("the first cell of a pass", x.pass(0, 0), 0);
        due("none before it", x.pass(0, -1), NONE);
        due("the first cell of a group", x.group(0), 2);
        due("none before it", x.group(-1), NONE);
        due("the first cell of a route", x.route(0, 0), 2);
        due("the first cell of a shortest route", x.shortest(1, 2, 0), 1);
        due("none before it", x.shortest(1, 2, -1), NONE);
        x.put('!');
        due("the fault at the first character", x.fault(), 0);
    }

    private static void sizes() {
        DOC.says("The grid has a width and a height from 2 to 8 (6 and 6 at first).");
        RouteProofs x = new RouteProofs();
        due("the first width", x.count(0), 6);
        due("the first height", x.count(1), 6);
        int width = 6;
        int height = 6;
        for (int newWidth = 0; newWidth <= 10; newWidth++) {
            for (int newHeight = 0; newHeight <= 10; newHeight++) {
                boolean fits = newWidth >= 2 && newWidth <= 8 && newHeight >= 2 && newHeight <= 8;
                due("setUp(" + newWidth + ", " + newHeight + ")", x.setUp(newWidth, newHeight), fits ? newWidth * newHeight : BAD_VALUE);
                width = fits ? newWidth : width;
                height = fits ? newHeight : height;
                due("the width then", x.count(0), width);
                due("the height then", x.count(1), height);
            }
        }
    }

    private static void cellNumbers() {
        DOC.says("The cell (x, y) has the number y * width + x.");
        for (int width = 2; width <= 8; width++) {
            for (int height = 2; height <= 8; height++) {
                String open = Edges.text(width, height, ".");
                for (int cell = 0; cell < width * height; cell++) {
                    int column = cell % width;
                    int row = cell / width;
                    int at = row * (width + 1) + column;
                    RouteProofs x = Texts.grid(open.substring(0, at) + "m" + open.substring(at + 1));
                    due("the marked cell (" + column + ", " + row + ") of " + width + " times " + height, x.group(0), cell);
                    due("its steps from (0, 0)", x.steps(0, cell), column + row);
                    due("the cells behind it", x.cell(cell, 4), (width - column) * (height - row));
                }
            }
        }
    }

    private static void rolesAtFirst() {
        DOC.says("Each cell is open or a wall (open at first) and has a role: NOTHING (0), SOURCE (1), TARGET (2) or MARKED (3); NOTHING at"
            + " first.");
        RouteProofs x = new RouteProofs();
        for (int cell = 0; cell < 36; cell++) {
            due("open at first: " + cell, x.cell(cell, 0), 0);
            due("no role at first: " + cell, x.cell(cell, 1), 0);
        }
        int[] roles = {RouteProofs.NOTHING, RouteProofs.SOURCE, RouteProofs.TARGET, RouteProofs.MARKED};
        for (int role = 0; role < 4; role++) {
            due("the constant of role " + role, roles[role], role);
            for (int wall = 0; wall < 2; wall++) {
                x.setUp(3, 3);
                x.wall(8, wall);
                x.role(8, role);
                due("whether a wall, with role " + role, x.cell(8, 0), wall);
                due("its role", x.cell(8, 1), role);
                due("no neighbour of it has one", x.cell(7, 1), 0);
            }
        }
        due("a role below", x.role(8, -1), BAD_VALUE);
        due("a role above", x.role(8, 4), BAD_VALUE);
    }

    private static void rolesOfWalls() {
        DOC.says("A wall can have a role, too, but it does not count as long as it is a wall.");
        RouteProofs x = Texts.grid("s.tm/....");
        Edges.go(x, 0, 0, 1, 2, 3);
        dueCounted("open", x, 1, 1, 1);
        for (int cell = 0; cell < 4; cell++) {
            x.wall(cell, 1);
            int role = x.cell(cell, 1);
            due("a wall keeps its role", role, new int[] {1, 0, 2, 3}[cell]);
            dueCounted("a wall: " + cell, x, role == 1 ? 0 : 1, role == 2 ? 0 : 1, role == 3 ? 0 : 1);
            x.wall(cell, 0);
            dueCounted("open again: " + cell, x, 1, 1, 1);
            x.wire(2, cell);
        }
        x.turn(2);
        dueCounted("all turned to walls", x, 0, 0, 0);
        due("a role that is given to a wall", x.role(3, 1), 3);
        dueCounted("still walls", x, 0, 0, 0);
        x.turn(2);
        dueCounted("turned back", x, 2, 1, 0);
    }

    private static void dueCounted(String title, RouteProofs x, int sources, int targets, int marked) {
        due(title + ": sources", x.count(3), sources);
        due(title + ": targets", x.count(4), targets);
        due(title + ": marked", x.count(5), marked);
        due(title + ": the flow", x.flow(), Math.min(sources, targets));
        due(title + ": the pass", x.pass(0, 0) == NONE ? 0 : 1, Math.min(sources, targets));
        due(title + ": the cover number", x.cover(), marked);
        due(title + ": the group", x.group(0), marked == 0 ? NONE : 3);
        due(title + ": about(0, 3)", x.about(0, 3), marked);
        due(title + ": check(0, 0)", x.check(0, 0), marked);
    }

    private static void switches() {
        DOC.says("There are 4 switches, 0 to 3.");
        RouteProofs x = new RouteProofs();
        for (int lever = -2; lever <= 6; lever++) {
            boolean there = lever >= 0 && lever < 4;
            due("turn(" + lever + ")", x.turn(lever), there ? 0 : NO_SUCH);
            due("wire(" + lever + ", 0)", x.wire(lever, 0), there ? 1 : NO_SUCH);
        }
        due("all four", x.cell(0, 2), 15);
        DOC.says("Each has a set of cells, empty at first.");
        RouteProofs y = Texts.grid("#./..");
        for (int lever = 0; lever < 4; lever++) {
            due("turn(" + lever + ") of an empty one", y.turn(lever), 1);
        }
        for (int cell = 0; cell < 4; cell++) {
            due("in no set: " + cell, y.cell(cell, 2), 0);
        }
        for (int lever = 0; lever < 4; lever++) {
            due("the first cell of switch " + lever, y.wire(lever, lever), 1);
            due("of this one alone", y.cell(lever, 2), 1 << lever);
        }
    }

    private static void switchesTurned() {
        DOC.says("If a switch is turned, each cell of its set that is open becomes a wall, and each one that is a wall becomes open.");
        RouteProofs x = Texts.grid(".#.#/.#.#");
        for (int cell = 2; cell < 6; cell++) {
            x.wire(1, cell);
        }
        int[][] walls = {{0, 1, 1, 0, 1, 0, 0, 1}, {0, 1, 0, 1, 0, 1, 0, 1}};
        for (int time = 0; time < 6; time++) {
            due("turn(1), time " + time, x.turn(1), 4);
            for (int cell = 0; cell < 8; cell++) {
                due("cell(" + cell + ", 0), time " + time, x.cell(cell, 0), walls[time % 2][cell]);
            }
        }
        due("the set stays", x.cell(5, 2), 2);
        RouteProofs both = Edges.sized(8, 8);
        both.wire(0, 63);
        both.wire(3, 63);
        due("one of two", both.turn(0), 1);
        due("the other one", both.turn(3), 0);
        due("the other one first", both.turn(3), 1);
        both.wall(63, 0);
        due("opened by hand", both.turn(0), 1);
        both.wire(3, 62);
        due("one closed, one opened", both.turn(3), 1);
        due("opened", both.cell(63, 0), 0);
        due("closed", both.cell(62, 0), 1);
    }

    private static int distance(int width, int a, int b) {
        return Math.abs(a % width - b % width) + Math.abs(a / width - b / width);
    }

    private static void adjacent() {
        DOC.says("Two cells are adjacent if they have a side in common.");
        int[][] sizes = {{2, 2}, {3, 3}, {2, 8}, {8, 2}, {7, 5}, {8, 8}};
        for (int[] size : sizes) {
            RouteProofs x = Edges.sized(size[0], size[1]);
            int cells = size[0] * size[1];
            for (int a = 0; a < cells; a++) {
                x.step(0, a);
                for (int b = 0; b < cells; b++) {
                    boolean beside = distance(size[0], a, b) == 1;
                    due("from " + a + " to " + b + " in " + size[0] + " times " + size[1], x.step(0, b), beside ? 2 : NOT_POSSIBLE);
                    if (beside) {
                        x.back(0);
                    }
                }
                x.back(0);
            }
        }
    }

    private static void freeRoutes() {
        DOC.says("A free route is a sequence of different open cells of which each is adjacent to the one before.");
        int[][] sizes = {{2, 2}, {2, 8}, {8, 2}, {5, 7}, {8, 8}};
        for (int[] size : sizes) {
            RouteProofs x = Edges.sized(size[0], size[1]);
            int cells = size[0] * size[1];
            for (int a = 0; a < cells; a++) {
                for (int b = 0; b < cells; b++) {
                    due("steps(" + a + ", " + b + ") in " + size[0] + " times " + size[1], x.steps(a, b), distance(size[0], a, b));
                }
            }
        }
        for (String text : GRIDS) {
            dueJoined(Texts.grid(text), text);
        }
    }

    /** A way by steps() and shortest() goes over open cells from one to the next, and none of them twice. */
    private static void dueJoined(RouteProofs x, String text) {
        int cells = x.count(0) * x.count(1);
        for (int a = 0; a < cells; a++) {
            for (int b = 0; b < cells; b++) {
                int steps = x.steps(a, b);
                int length = 0;
                int slot = (a + b) % 5;
                for (int index = 0; index < 64 && x.shortest(a, b, index) != NONE; index++) {
                    length += x.step(slot, x.shortest(a, b, index)) == index + 1 ? 1 : -100;
                }
                due("the cells from " + a + " to " + b + " of " + text, length, steps == NONE ? 0 : steps + 1);
                due("and back", x.steps(b, a), steps);
                if (x.cell(a, 0) + x.cell(b, 0) > 0) {
                    due("walls at the ends", steps, NONE);
                }
                for (int index = 0; index < length; index++) {
                    x.back(slot);
                }
            }
        }
    }

    private static void fallingRoutes() {
        DOC.says("A falling route is a free route whose steps only go right (x + 1) or down (y + 1).");
        int[][] sizes = {{2, 2}, {2, 8}, {8, 2}, {5, 7}, {8, 8}};
        for (int[] size : sizes) {
            RouteProofs x = Edges.sized(size[0], size[1]);
            int cells = size[0] * size[1];
            for (int a = 0; a < cells; a++) {
                for (int b = 0; b < cells; b++) {
                    int right = b % size[0] - a % size[0];
                    int down = b / size[0] - a / size[0];
                    long want = right < 0 || down < 0 ? 0 : Edges.binomial(right + down, right);
                    due("falling(" + a + ", " + b + ") in " + size[0] + " times " + size[1], x.falling(a, b), want);
                }
            }
        }
        for (String text : GRIDS) {
            RouteProofs x = Texts.grid(text);
            int cells = x.count(0) * x.count(1);
            for (int a = 0; a < cells; a++) {
                for (int b = 0; b < cells; b++) {
                    due("falling(" + a + ", " + b + ") of " + text, x.falling(a, b), fallingByTrying(x, a, b));
                }
            }
        }
    }

    private static long fallingByTrying(RouteProofs x, int a, int b) {
        int width = x.count(0);
        boolean inside = a < width * x.count(1);
        if (!inside || x.cell(a, 0) == 1) {
            return 0;
        }
        long right = a % width < width - 1 ? fallingByTrying(x, a + 1, b) : 0;
        return (a == b ? 1 : 0) + right + fallingByTrying(x, a + width, b);
    }

    private static void oneCell() {
        DOC.says("A route can consist of one cell.");
        RouteProofs x = Texts.grid("#m#/m.m/#m#");
        for (int cell = 0; cell < 9; cell++) {
            int open = 1 - x.cell(cell, 0);
            due("falling(" + cell + ", itself)", x.falling(cell, cell), open);
            due("steps(" + cell + ", itself)", x.steps(cell, cell), open == 1 ? 0 : NONE);
            due("shortest(" + cell + ", itself, 0)", x.shortest(cell, cell, 0), open == 1 ? cell : NONE);
            x.unpair();
            x.pair(cell, cell);
            due("tuples of " + cell + " and itself", x.tuples(), open);
            due("determinant of " + cell + " and itself", x.determinant(), open);
        }
        x.step(0, 7);
        x.step(4, 7);
        due("valid", x.about(0, 0), 1);
        due("falling", x.about(0, 1), 1);
        due("it covers its cell", x.about(0, 3), 1);
        due("it meets another one", x.meeting(0, 4), 7);
        due("it can be exchanged", x.exchange(4, 0), 7);
        due("a route covers one marked cell alone", Texts.grid("m#/#.").cover(), 1);
    }

    private static void behind() {
        DOC.says("A cell b lies behind a cell a if there is a falling route from a to b.");
        for (String text : GRIDS) {
            RouteProofs x = Texts.grid(text);
            int cells = x.count(0) * x.count(1);
            for (int a = 0; a < cells; a++) {
                int behind = 0;
                for (int b = 0; b < cells; b++) {
                    behind += x.falling(a, b) > 0 ? 1 : 0;
                }
                due("cell(" + a + ", 4) of " + text, x.cell(a, 4), behind);
            }
        }
        DOC.says("Each open cell lies behind itself.");
        RouteProofs alone = Texts.grid("#######./######.#/#####.##/####.###/###.####/##.#####/#.######/.#######");
        for (int cell = 0; cell < 64; cell++) {
            due("alone or a wall: " + cell, alone.cell(cell, 4), 1 - alone.cell(cell, 0));
        }
        for (int cell = 0; cell < 64; cell++) {
            alone.wall(cell, 1);
            due("a wall: " + cell, alone.cell(cell, 4), 0);
        }
    }

    private static void pairs() {
        DOC.says("There can be 4 pairs of cells, a start and an end each, 0 to 3; a new one is appended.");
        RouteProofs x = new RouteProofs();
        for (int pair = 0; pair < 7; pair++) {
            due("pair number " + pair, x.pair(pair, 35 - pair), pair < 4 ? pair : TOO_MANY);
            due("so many", x.count(6), Math.min(pair + 1, 4));
        }
        // Where a pair stands tells its row and column: the ends of two are exchanged, the sign with them.
        int[][] orders = {{1, 29, 6, 34}, {6, 34, 1, 29}, {1, 34, 6, 29}, {6, 29, 1, 34}};
        int[] signs = {1, 1, -1, -1};
        for (int index = 0; index < orders.length; index++) {
            RouteProofs y = new RouteProofs();
            Edges.pairs(y, orders[index]);
            due("order " + index, Long.signum(y.determinant()), signs[index]);
        }
        RouteProofs turned = new RouteProofs();
        turned.pair(35, 0);
        due("the start is first", turned.tuples(), 0);
        turned.unpair();
        turned.pair(0, 35);
        due("the end is second", turned.tuples(), 252);
    }

    private static void tuples() {
        DOC.says("A tuple of falling routes for all pairs has a route from the start to the end of each pair");
        RouteProofs x = Edges.sized(8, 8);
        Edges.pairs(x, 0, 19, 36, 63);
        due("apart: as many as one times the other", x.tuples(), x.falling(0, 19) * x.falling(36, 63));
        x.pair(7, 63);
        due("one ends where another one does", x.tuples(), 0);
        RouteProofs none = new RouteProofs();
        Edges.pairs(none, 0, 1, 12, 13, 30, 24);
        due("the last one has no route", none.tuples(), 0);
        RouteProofs other = new RouteProofs();
        Edges.pairs(other, 0, 11, 6, 5);
        due("not to the end of another pair", other.tuples(), 0);
        DOC.says("it is disjoint if no two of these routes have a cell in common");
        RouteProofs square = Edges.sized(2, 2);
        Edges.pairs(square, 0, 0, 1, 3);
        due("beside each other", square.tuples(), 1);
        square.pair(3, 3);
        due("an end in common", square.tuples(), 0);
        int[][] pairs = {{0, 1, 0, 2}, {0, 3, 1, 3}, {0, 1, 1, 3}, {0, 2, 1, 3}, {0, 0, 0, 0}, {0, 1, 2, 3}};
        int[] wants = {0, 0, 0, 1, 0, 1};
        for (int index = 0; index < wants.length; index++) {
            RouteProofs y = Edges.sized(2, 2);
            Edges.pairs(y, pairs[index]);
            due("pairs number " + index, y.tuples(), wants[index]);
        }
        RouteProofs around = Edges.sized(2, 2);
        Edges.pairs(around, 0, 3, 1, 1);
        due("one way is left", around.tuples(), 1);
        around.pair(2, 2);
        due("no way is left", around.tuples(), 0);
        RouteProofs crossing = Texts.grid("#.#/.../#.#");
        Edges.pairs(crossing, 1, 7, 3, 5);
        due("in the middle", crossing.tuples(), 0);
        for (String text : GRIDS) {
            dueTuplesByTrying(Texts.grid(text), text);
        }
    }

    /** Two routes, of which one's cells are tried out: what is left is counted for the other one. */
    private static void dueTuplesByTrying(RouteProofs x, String text) {
        int cells = x.count(0) * x.count(1);
        for (int round = 0; round < cells; round++) {
            int start = round % 3;
            int end = cells - 1 - round % 4;
            int second = Math.min(round, cells - 1);
            int secondEnd = cells - 1 - round / 2;
            long want = withoutMeeting(x, start, end, second, secondEnd);
            x.unpair();
            Edges.pairs(x, start, end, second, secondEnd);
            due("pairs " + start + ", " + end + " and " + second + ", " + secondEnd + " of " + text, x.tuples(), want);
        }
    }

    private static long withoutMeeting(RouteProofs x, int from, int to, int start, int end) {
        int width = x.count(0);
        if (from >= width * x.count(1) || x.cell(from, 0) == 1) {
            return 0;
        }
        x.wall(from, 1);
        long sum = from == to ? x.falling(start, end) : 0;
        if (from % width < width - 1) {
            sum += withoutMeeting(x, from + 1, to, start, end);
        }
        sum += withoutMeeting(x, from + width, to, start, end);
        x.wall(from, 0);
        return sum;
    }

    private static void determinant() {
        DOC.says("The determinant of the pairs is that of the matrix whose element in row i and column j is the number of falling routes from"
            + " the start of pair i to the end of pair j.");
        RouteProofs two = new RouteProofs();
        Edges.pairs(two, 0, 28, 2, 35);
        due("two", two.determinant(), two.falling(0, 28) * two.falling(2, 35) - two.falling(0, 35) * two.falling(2, 28));
        for (int seed = 0; seed < 400; seed++) {
            String text = seed % 3 == 0 ? Edges.text(8, 8, ".") : GRIDS[seed % GRIDS.length];
            RouteProofs x = Texts.grid(text);
            int cells = x.count(0) * x.count(1);
            int pairs = 1 + seed % 4;
            int[] ends = new int[2 * pairs];
            for (int index = 0; index < pairs; index++) {
                ends[2 * index] = (seed * 7 + index * 5) % (cells / 2);
                ends[2 * index + 1] = cells - 1 - (seed * 3 + index * index * 2 + index) % (cells / 2);
            }
            Edges.pairs(x, ends);
            due("pairs of seed " + seed + " of " + text, x.determinant(), expanded(x, ends, 0, 0));
        }
    }

    /** By rows: each column that is not taken yet, with the sign of its place among the free ones. */
    private static long expanded(RouteProofs x, int[] ends, int row, int taken) {
        int pairs = ends.length / 2;
        if (row == pairs) {
            return 1;
        }
        long sum = 0;
        int sign = 1;
        for (int column = 0; column < pairs; column++) {
            if ((taken >> column & 1) == 0) {
                sum += sign * x.falling(ends[2 * row], ends[2 * column + 1]) * expanded(x, ends, row + 1, taken | 1 << column);
                sign = -sign;
            }
        }
        return sum;
    }
}
