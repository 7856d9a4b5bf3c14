/** The boundary cases that promises 12 to 24 name, sentence by sentence: falling and free routes, and covering. */
public final class CountingEdgesTest {
    private static final int NO_SUCH = -1, BAD_VALUE = -2, TOO_MANY = -4, NONE = -6;
    private static final String SNAKE = "......../#######./......../.#######/......../#######./......../.#######";
    private static final Sentences DOC = new Sentences("CountingEdgesTest");

    private CountingEdgesTest() {
    }

    public static void main(String[] args) {
        falling();
        fallingRefused();
        pair();
        pairRefused();
        unpair();
        tuples();
        tuplesOfMany();
        determinant();
        steps();
        stepsRefused();
        shortest();
        shortestNone();
        flow();
        pass();
        passRefused();
        changed();
        changedRefused();
        bestTurns();
        bestTurnsAmongEquals();
        cover();
        group();
        DOC.endWithPromises(12, 24);
    }

    private static void due(String call, long got, long want) {
        DOC.due(call, got, want);
    }

    private static void falling() {
        DOC.promise(12);
        DOC.says("Counts the falling routes from a cell to another one (or itself).");
        for (int width = 2; width <= 8; width++) {
            for (int height = 2; height <= 8; height++) {
                RouteProofs x = Edges.sized(width, height);
                int last = width * height - 1;
                due("from first to last of " + width + " times " + height, x.falling(0, last), Edges.binomial(width + height - 2, width - 1));
                due("from last to first", x.falling(last, 0), 0);
                due("to itself", x.falling(last, last), 1);
                due("to the right", x.falling(0, 1), 1);
                due("to the left", x.falling(1, 0), 0);
                due("down", x.falling(0, width), 1);
                due("up", x.falling(width, 0), 0);
                due("over the end of a row", x.falling(width - 1, width), 0);
                due("down and left", x.falling(1, width), 0);
            }
        }
        RouteProofs walls = Texts.grid("#.#/.../#.#");
        due("a wall to itself", walls.falling(0, 0), 0);
        due("from a wall", walls.falling(0, 4), 0);
        due("to a wall", walls.falling(4, 8), 0);
        due("between walls", walls.falling(1, 5), 1);
        RouteProofs shut = Texts.grid(".#/#.");
        due("no way", shut.falling(0, 3), 0);
        due("a way back up does not count", Texts.grid("..#/#../...").falling(0, 6), 0);
    }

    private static void fallingRefused() {
        DOC.says("GONE + NO_SUCH if there is no such cell");
        long gone = -1000000000000000001L;
        int[][] sizes = {{2, 2}, {6, 6}, {8, 8}};
        for (int[] size : sizes) {
            RouteProofs x = Edges.sized(size[0], size[1]);
            for (int cell : Edges.outside(size[0] * size[1])) {
                due("falling(" + cell + ", 0)", x.falling(cell, 0), gone);
                due("falling(0, " + cell + ")", x.falling(0, cell), gone);
                due("falling(" + cell + ", " + cell + ")", x.falling(cell, cell), gone);
            }
        }
    }

    private static void pair() {
        DOC.promise(13);
        DOC.says("Returns its number");
        RouteProofs x = Texts.grid("#./..");
        int[][] pairs = {{0, 0}, {3, 0}, {0, 3}, {0, 0}};
        for (int index = 0; index < 4; index++) {
            due("walls, backwards, twice: " + index, x.pair(pairs[index][0], pairs[index][1]), index);
            due("how many", x.count(6), index + 1);
        }
        x.unpair();
        due("from 0 again", x.pair(3, 3), 0);
        RouteProofs wide = Edges.sized(8, 8);
        due("the last cell", wide.pair(63, 63), 0);
    }

    private static void pairRefused() {
        DOC.says("NO_SUCH if there is no such cell");
        int[][] sizes = {{2, 2}, {6, 6}, {8, 8}};
        for (int[] size : sizes) {
            RouteProofs x = Edges.sized(size[0], size[1]);
            for (int cell : Edges.outside(size[0] * size[1])) {
                due("pair(" + cell + ", 0)", x.pair(cell, 0), NO_SUCH);
                due("pair(0, " + cell + ")", x.pair(0, cell), NO_SUCH);
                due("pair(" + cell + ", " + cell + ")", x.pair(cell, cell), NO_SUCH);
            }
            due("no pairs", x.count(6), 0);
        }
        DOC.says("TOO_MANY if there are 4 pairs");
        RouteProofs x = new RouteProofs();
        Edges.pairs(x, 0, 0, 1, 1, 2, 2, 3, 3);
        due("a fifth", x.pair(4, 4), TOO_MANY);
        due("one of the four", x.pair(3, 3), TOO_MANY);
        due("four", x.count(6), 4);
        due("these four", x.tuples(), 1);
        x.unpair();
        due("room again", x.pair(4, 4), 0);
    }

    private static void unpair() {
        DOC.promise(14);
        DOC.says("Drops all pairs. Returns how many there were.");
        for (int pairs = 0; pairs <= 4; pairs++) {
            RouteProofs x = new RouteProofs();
            for (int index = 0; index < pairs; index++) {
                x.pair(35, 0);
            }
            due("unpair() of " + pairs, x.unpair(), pairs);
            due("none then", x.count(6), 0);
            due("none to drop", x.unpair(), 0);
            due("tuples then", x.tuples(), 1);
            due("determinant then", x.determinant(), 1);
        }
    }

    private static void tuples() {
        DOC.promise(15);
        DOC.says("Counts the disjoint tuples of falling routes for all pairs (1 if there are no pairs).");
        due("no pairs", new RouteProofs().tuples(), 1);
        due("no pairs among walls", Texts.grid("##/##").tuples(), 1);
        RouteProofs dropped = Edges.busy();
        dropped.unpair();
        due("no pairs any more", dropped.tuples(), 1);
        RouteProofs one = Edges.sized(8, 8);
        one.pair(0, 63);
        due("one pair", one.tuples(), 3432);
        one.pair(63, 63);
        due("an end on the way", one.tuples(), 0);
        RouteProofs corners = Edges.sized(8, 8);
        Edges.pairs(corners, 0, 0, 7, 7, 56, 56, 63, 63);
        due("four corners", corners.tuples(), 1);
        corners.wall(63, 1);
        due("one of them a wall", corners.tuples(), 0);
        RouteProofs same = new RouteProofs();
        Edges.pairs(same, 0, 1, 0, 1);
        due("the same pair twice", same.tuples(), 0);
        RouteProofs rows = Edges.sized(8, 4);
        Edges.pairs(rows, 24, 31, 16, 23, 8, 15, 0, 7);
        due("four rows, the lowest first", rows.tuples(), 1);
        RouteProofs columns = Edges.sized(4, 8);
        Edges.pairs(columns, 3, 31, 0, 28, 2, 30, 1, 29);
        due("four columns, mixed", columns.tuples(), 1);
        RouteProofs back = Edges.sized(4, 8);
        Edges.pairs(back, 0, 28, 31, 3);
        due("one that goes back", back.tuples(), 0);
        RouteProofs shifted = Edges.sized(2, 8);
        Edges.pairs(shifted, 0, 3, 4, 7, 8, 11, 12, 15);
        due("one below the other", shifted.tuples(), 16);
    }

    /** How many tuples there are that go a steps right and b down beside each other: MacMahon's product. */
    private static long beside(int a, int b, int routes) {
        double product = 1;
        for (int i = 1; i <= a; i++) {
            for (int j = 1; j <= b; j++) {
                product *= (double) (i + j + routes - 1) / (i + j - 1);
            }
        }
        return Math.round(product);
    }

    private static RouteProofs beside(int width, int height, int routes, boolean turned) {
        RouteProofs x = Edges.sized(width, height);
        for (int index = 0; index < routes; index++) {
            int row = turned ? routes - 1 - index : index;
            int start = row * width + routes - 1 - row;
            int end = (height - routes + row) * width + width - 1 - row;
            x.pair(start, end);
        }
        return x;
    }

    private static void tuplesOfMany() {
        for (int width = 2; width <= 8; width++) {
            for (int height = 2; height <= 8; height++) {
                for (int routes = 1; routes <= Math.min(4, Math.min(width, height)); routes++) {
                    long want = beside(width - routes, height - routes, routes);
                    String title = routes + " routes in " + width + " times " + height;
                    due(title, beside(width, height, routes, false).tuples(), want);
                    due(title + " from below", beside(width, height, routes, true).tuples(), want);
                }
            }
        }
    }

    private static void determinant() {
        DOC.promise(16);
        DOC.says("Returns the determinant of the pairs (1 if there are no pairs).");
        due("no pairs", new RouteProofs().determinant(), 1);
        due("no pairs among walls", Texts.grid("##/##").determinant(), 1);
        for (int width = 2; width <= 8; width++) {
            for (int height = 2; height <= 8; height++) {
                for (int routes = 1; routes <= Math.min(4, Math.min(width, height)); routes++) {
                    long want = beside(width - routes, height - routes, routes);
                    String title = routes + " routes in " + width + " times " + height;
                    due(title, beside(width, height, routes, false).determinant(), want);
                }
            }
        }
        RouteProofs crossed = new RouteProofs();
        Edges.pairs(crossed, 1, 34, 6, 29);
        RouteProofs plain = new RouteProofs();
        Edges.pairs(plain, 1, 29, 6, 34);
        due("crossed ones have the other sign", crossed.determinant(), -plain.determinant());
        due("and no disjoint tuples", crossed.tuples(), 0);
        RouteProofs wall = new RouteProofs();
        wall.wall(0, 1);
        Edges.pairs(wall, 0, 35, 1, 34);
        due("a start that is a wall", wall.determinant(), 0);
        RouteProofs same = new RouteProofs();
        Edges.pairs(same, 0, 35, 0, 35, 0, 35, 0, 35);
        due("four times the same", same.determinant(), 0);
        RouteProofs meeting = new RouteProofs();
        Edges.pairs(meeting, 0, 1, 0, 6);
        due("one start for both", meeting.determinant(), 0);
        RouteProofs one = Edges.sized(8, 8);
        one.pair(0, 63);
        due("the greatest of one", one.determinant(), 3432);
        one.unpair();
        one.pair(63, 0);
        due("one that goes back", one.determinant(), 0);
    }

    private static void steps() {
        DOC.promise(17);
        DOC.says("Returns the number, 0 for the same open cell");
        for (int width = 2; width <= 8; width++) {
            for (int height = 2; height <= 8; height++) {
                RouteProofs x = Edges.sized(width, height);
                int last = width * height - 1;
                due("across " + width + " times " + height, x.steps(0, last), width + height - 2);
                due("and back", x.steps(last, 0), width + height - 2);
                due("the other way across", x.steps(width - 1, last - width + 1), width + height - 2);
                due("over the end of a row", x.steps(width - 1, width), width);
                due("the same", x.steps(last, last), 0);
            }
        }
        RouteProofs snake = Texts.grid(SNAKE);
        due("a long way", snake.steps(0, 56), 35);
        due("and back", snake.steps(56, 0), 35);
        DOC.says("NONE if there is no such route");
        RouteProofs x = Texts.grid(".#./##./...");
        due("cut off", x.steps(0, 8), NONE);
        due("cut off, from the other side", x.steps(8, 0), NONE);
        due("the same wall", x.steps(1, 1), NONE);
        due("from a wall", x.steps(1, 2), NONE);
        due("to a wall", x.steps(2, 1), NONE);
        due("from wall to wall", x.steps(3, 4), NONE);
        due("the cut off cell itself", x.steps(0, 0), 0);
        due("not through a corner", Texts.grid(".#/#.").steps(0, 3), NONE);
    }

    private static void stepsRefused() {
        DOC.says("NO_SUCH if there is no such cell");
        int[][] sizes = {{2, 2}, {6, 6}, {8, 8}};
        for (int[] size : sizes) {
            RouteProofs x = Edges.sized(size[0], size[1]);
            x.wall(0, 1);
            for (int cell : Edges.outside(size[0] * size[1])) {
                due("steps(" + cell + ", 1)", x.steps(cell, 1), NO_SUCH);
                due("steps(1, " + cell + ")", x.steps(1, cell), NO_SUCH);
                due("from a wall: steps(0, " + cell + ")", x.steps(0, cell), NO_SUCH);
                due("steps(" + cell + ", " + cell + ")", x.steps(cell, cell), NO_SUCH);
            }
        }
    }

    private static void dueShortest(RouteProofs x, int... cells) {
        int from = cells[0];
        int to = cells[cells.length - 1];
        for (int index = 0; index < cells.length; index++) {
            due("shortest(" + from + ", " + to + ", " + index + ")", x.shortest(from, to, index), cells[index]);
        }
        due("one more", x.shortest(from, to, cells.length), NONE);
    }

    private static void shortest() {
        DOC.promise(18);
        DOC.says("`index`: index of the cell, from 0 for the first one");
        RouteProofs x = new RouteProofs();
        dueShortest(x, 35);
        dueShortest(x, 35, 34);
        int[] snake = {0, 1, 2, 3, 4, 5, 6, 7, 15, 23, 22, 21, 20, 19, 18, 17, 16, 24, 32, 33, 34, 35, 36, 37, 38, 39, 47, 55, 54, 53, 52,
            51, 50, 49, 48, 56};
        dueShortest(Texts.grid(SNAKE), snake);
        DOC.says("Returns a cell of the shortest free route from a cell to another one that is lexicographically smallest by the"
            + " numbers of its cells.");
        dueShortest(x, 0, 1, 2, 8, 14);
        dueShortest(x, 14, 8, 2, 1, 0);
        dueShortest(x, 2, 1, 0, 6, 12);
        dueShortest(x, 12, 6, 0, 1, 2);
        x.wall(1, 1);
        dueShortest(x, 0, 6, 7, 8, 2);
        x.wall(8, 1);
        dueShortest(x, 12, 6, 7);
        dueShortest(Texts.grid(".../.#./..."), 0, 1, 2, 5, 8);
        dueShortest(Texts.grid("..#/.../..."), 0, 1, 4, 5, 8);
        dueShortest(Texts.grid("...#/.#../...."), 0, 1, 2, 6, 7);
    }

    private static void shortestNone() {
        DOC.says("NONE if there is no such index or route");
        RouteProofs x = Texts.grid(".#./##./...");
        int[] wrong = {-1, -2, 5, 6, 64, 65, Edges.LOW, Edges.HIGH};
        for (int index : wrong) {
            due("shortest(2, 6, " + index + ")", x.shortest(2, 6, index), NONE);
        }
        for (int index : Edges.outside(1)) {
            due("shortest(0, 0, " + index + ")", x.shortest(0, 0, index), NONE);
        }
        int[] indices = {0, 1, -1, Edges.HIGH, Edges.LOW};
        for (int index : indices) {
            due("cut off: " + index, x.shortest(0, 8, index), NONE);
            due("from a wall: " + index, x.shortest(1, 2, index), NONE);
            due("to a wall: " + index, x.shortest(2, 1, index), NONE);
            due("a wall itself: " + index, x.shortest(1, 1, index), NONE);
        }
        DOC.says("NO_SUCH if there is no such cell");
        int[][] sizes = {{2, 2}, {6, 6}, {8, 8}};
        for (int[] size : sizes) {
            RouteProofs y = Edges.sized(size[0], size[1]);
            for (int cell : Edges.outside(size[0] * size[1])) {
                due("shortest(" + cell + ", 0, 0)", y.shortest(cell, 0, 0), NO_SUCH);
                due("shortest(0, " + cell + ", 0)", y.shortest(0, cell, 0), NO_SUCH);
                due("shortest(" + cell + ", " + cell + ", -1)", y.shortest(cell, cell, -1), NO_SUCH);
            }
        }
    }

    /** Sources and targets like the squares of a chessboard. */
    private static RouteProofs chessboard(int width, int height) {
        RouteProofs x = Edges.sized(width, height);
        for (int cell = 0; cell < width * height; cell++) {
            x.role(cell, (cell / width + cell % width) % 2 == 0 ? 1 : 2);
        }
        return x;
    }

    private static void flow() {
        DOC.promise(19);
        DOC.says("Returns the flow.");
        due("no roles", new RouteProofs().flow(), 0);
        due("no targets", Texts.grid("ss/ss").flow(), 0);
        due("no sources", Texts.grid("tt/tt").flow(), 0);
        due("walls alone", Texts.grid("ST/TS").flow(), 0);
        due("marked cells alone", Texts.grid("mm/mm").flow(), 0);
        due("one of each", Texts.grid("s#/#t").flow(), 0);
        due("one of each, side by side", Texts.grid("st/##").flow(), 1);
        due("not over the end of a row", Texts.grid("#s/t#").flow(), 0);
        for (int width = 2; width <= 8; width++) {
            for (int height = 2; height <= 8; height++) {
                due("a chessboard of " + width + " times " + height, chessboard(width, height).flow(), width * height / 2);
            }
        }
        due("eight rows", Texts.grid(Edges.text(8, 8, ".").replace("......../", "s......t/")).flow(), 7);
    }

    private static void pass() {
        DOC.promise(20);
        DOC.says("`far`: 0 for the near pass, 1 for the far one");
        RouteProofs x = Texts.grid("s.#.t/s...t/s.#.t");
        due("near", x.pass(0, 0), 6);
        due("far", x.pass(1, 0), 8);
        RouteProofs only = Texts.grid("#s#/s.t/#t#");
        due("near of one pass", only.pass(0, 0), 4);
        due("far of one pass", only.pass(1, 0), 4);
        DOC.says("`index`: index of the cell in ascending order");
        RouteProofs board = chessboard(8, 8);
        for (int index = 0; index < 32; index++) {
            int row = index / 4;
            int near = 8 * row + index % 4 * 2 + row % 2;
            due("pass(0, " + index + ")", board.pass(0, index), near);
            due("pass(1, " + index + ")", board.pass(1, index), near ^ 1);
        }
        DOC.says("NONE if there is no such index");
        for (int index : Edges.outside(32)) {
            due("pass(0, " + index + ")", board.pass(0, index), NONE);
            due("pass(1, " + index + ")", board.pass(1, index), NONE);
        }
        String[] without = {"../..", "ss/ss", "tt/tt", "s#/#t", "ST/TS"};
        for (String text : without) {
            due("near of " + text, Texts.grid(text).pass(0, 0), NONE);
            due("far of " + text, Texts.grid(text).pass(1, 0), NONE);
        }
        for (int index : Edges.outside(1)) {
            due("pass(0, " + index + ")", x.pass(0, index), NONE);
            due("pass(1, " + index + ")", x.pass(1, index), NONE);
        }
    }

    private static void passRefused() {
        DOC.says("BAD_VALUE if far is neither 0 nor 1");
        RouteProofs x = Texts.grid("st/..");
        for (int far : Edges.outside(2)) {
            due("pass(" + far + ", 0)", x.pass(far, 0), BAD_VALUE);
            due("pass(" + far + ", 1)", x.pass(far, 1), BAD_VALUE);
            due("pass(" + far + ", -1)", x.pass(far, -1), BAD_VALUE);
        }
    }

    private static void changed() {
        DOC.promise(21);
        DOC.says("Returns what the flow would be if a cell were changed from a wall to an open cell, or back.");
        due("a wall to an open cell", Texts.grid("s#t/###").changed(1), 1);
        due("an open cell to a wall", Texts.grid("s.t/###").changed(1), 0);
        due("a wall elsewhere", Texts.grid("s#t/###").changed(4), 0);
        due("an open cell elsewhere", Texts.grid("s.t/..#").changed(1), 0);
        due("a wall that is a source", Texts.grid("S.t/###").changed(0), 1);
        due("a wall that is a target", Texts.grid("s.T/###").changed(2), 1);
        due("the source", Texts.grid("s.t/###").changed(0), 0);
        due("the target", Texts.grid("s.t/###").changed(2), 0);
        RouteProofs x = Texts.grid("s#t/s.t");
        due("one more", x.changed(1), 2);
        due("none left", x.changed(4), 0);
        due("the first again", x.changed(1), 2);
        due("nothing has changed", x.flow(), 1);
        due("not a wall", x.cell(1, 0), 1);
        RouteProofs board = chessboard(8, 8);
        for (int cell = 0; cell < 64; cell++) {
            due("a chessboard without " + cell, board.changed(cell), 31);
        }
        RouteProofs nothing = new RouteProofs();
        due("without any", nothing.changed(35), 0);
    }

    private static void changedRefused() {
        DOC.says("NO_SUCH if there is no such cell");
        int[][] sizes = {{2, 2}, {6, 6}, {8, 8}};
        for (int[] size : sizes) {
            RouteProofs x = Edges.sized(size[0], size[1]);
            for (int cell : Edges.outside(size[0] * size[1])) {
                due("changed(" + cell + ")", x.changed(cell), NO_SUCH);
            }
        }
    }

    private static RouteProofs wired(String text, int[]... sets) {
        RouteProofs x = Texts.grid(text);
        for (int lever = 0; lever < sets.length; lever++) {
            for (int cell : sets[lever]) {
                x.wire(lever, cell);
            }
        }
        return x;
    }

    private static void dueBest(String title, RouteProofs x, int mask, int flow) {
        int walls = x.count(2);
        due(title + ": the switches", x.bestTurns(0), mask);
        due(title + ": the flow", x.bestTurns(1), flow);
        due(title + ": nothing is turned", x.count(2), walls);
    }

    private static void bestTurns() {
        DOC.promise(22);
        DOC.says("1 for this flow");
        int[] none = {};
        dueBest("no switch has a cell", Texts.grid("s.t/###"), 0, 1);
        dueBest("no flow", wired("s#t/###", none, new int[] {4}), 0, 0);
        dueBest("no roles", wired("../..", new int[] {0, 1, 2, 3}), 0, 0);
        dueBest("one", wired("s#t/###", new int[] {1}), 1, 1);
        dueBest("the last one", wired("s#t/###", none, none, none, new int[] {1}), 8, 1);
        dueBest("all four", wired("s####t/######", new int[] {1}, new int[] {2}, new int[] {3}, new int[] {4}), 15, 1);
        dueBest("all cells", wired("ST/ST", none, none, none, new int[] {0, 1, 2, 3}), 8, 2);
        dueBest("the greatest now", wired("st/st", new int[] {0}, new int[] {1}, new int[] {2}, new int[] {3}), 0, 2);
        RouteProofs back = wired("s.t/###", new int[] {1});
        back.turn(0);
        dueBest("turned away", back, 1, 1);
        dueBest("one that opens and one that mends", wired("s#t/s.t", new int[] {1, 4}, new int[] {4}), 3, 2);
        dueBest("a cell of two sets", wired("s#t/###", new int[] {1}, new int[] {1}), 1, 1);
    }

    private static void bestTurnsAmongEquals() {
        DOC.says("of those with the greatest flow the one with the fewest switches, of several the lowest mask");
        int[] none = {};
        int[] one = {1};
        int[] two = {2};
        int[] both = {1, 2};
        String text = "s##t/####";
        dueBest("one before two", wired(text, one, two, both), 4, 1);
        dueBest("one before two lower ones", wired(text, one, two, none, both), 8, 1);
        dueBest("the lower of two", wired(text, none, both, none, both), 2, 1);
        dueBest("the lowest of four", wired(text, both, both, both, both), 1, 1);
        dueBest("5 before 6, 9 and 10", wired(text, one, one, two, two), 5, 1);
        dueBest("6 before 9", wired("s##..t/######", new int[] {1, 3}, new int[] {1, 4}, new int[] {2, 4}, new int[] {2, 3}), 6, 1);
        dueBest("3 is none, 5 before 6", wired(text, one, one, two), 5, 1);
        dueBest("6 before 12", wired(text, none, one, two, one), 6, 1);
        dueBest("8 before 7", wired("s###t/#####", new int[] {1}, new int[] {2}, new int[] {3}, new int[] {1, 2, 3}), 8, 1);
        dueBest("none before any", wired("s..t/####", none, none, none, none), 0, 1);
        dueBest("more flow before fewer", wired("s#t/s#t", new int[] {1}, new int[] {4}), 3, 2);
        DOC.says("0 for the set of the switches, as a bit mask");
        for (int mask = 0; mask < 16; mask++) {
            RouteProofs x = Texts.grid("s####t/######");
            for (int index = 0; index < 4; index++) {
                x.wall(index + 1, mask >> index & 1);
                x.wire(index, index + 1);
            }
            dueBest("just " + mask, x, mask, 1);
        }
        DOC.says("BAD_VALUE if what is neither 0 nor 1");
        RouteProofs x = wired("s#t/###", new int[] {1});
        for (int what : Edges.outside(2)) {
            due("bestTurns(" + what + ")", x.bestTurns(what), BAD_VALUE);
        }
    }

    private static void cover() {
        DOC.promise(23);
        DOC.says("Returns the cover number.");
        due("none", new RouteProofs().cover(), 0);
        due("walls alone", Texts.grid("MM/MM").cover(), 0);
        due("other roles alone", Texts.grid("st/ts").cover(), 0);
        due("one", Texts.grid("M./.m").cover(), 1);
        for (int width = 2; width <= 8; width++) {
            for (int height = 2; height <= 8; height++) {
                RouteProofs x = Texts.grid(Edges.text(width, height, "m"));
                due("all of " + width + " times " + height, x.cover(), Math.min(width, height));
            }
        }
        String rows = "m#m#m#m#/#m#m#m#m";
        due("none joined to another", Texts.grid(rows + "/" + rows + "/" + rows + "/" + rows).cover(), 32);
        due("not over the end of a row", Texts.grid("#m/m#").cover(), 2);
    }

    private static void group() {
        DOC.promise(24);
        DOC.says("`index`: index of the cell in ascending order");
        String rows = "m#m#m#m#/#m#m#m#m";
        RouteProofs x = Texts.grid(rows + "/" + rows + "/" + rows + "/" + rows);
        for (int index = 0; index < 32; index++) {
            int row = index / 4;
            due("group(" + index + ")", x.group(index), 8 * row + index % 4 * 2 + row % 2);
        }
        RouteProofs all = Texts.grid(Edges.text(8, 8, "m"));
        for (int index = 0; index < 8; index++) {
            due("of all: group(" + index + ")", all.group(index), 7 + 7 * index);
        }
        DOC.says("NONE if there is no such index");
        for (int index : Edges.outside(32)) {
            due("group(" + index + ")", x.group(index), NONE);
        }
        for (int index : Edges.outside(8)) {
            due("of all: group(" + index + ")", all.group(index), NONE);
        }
        String[] without = {"../..", "MM/MM", "st/ts"};
        int[] indices = {0, 1, -1, Edges.HIGH, Edges.LOW};
        for (String text : without) {
            for (int index : indices) {
                due("group(" + index + ") of " + text, Texts.grid(text).group(index), NONE);
            }
        }
    }
}
