/** Each promise of the document: ordinary inputs, the edges that it names, and wrong inputs. */
public final class PromisesTest {
    private static final int NO_SUCH = -1, BAD_VALUE = -2, BAD_TEXT = -3, TOO_MANY = -4, NOT_POSSIBLE = -5, NONE = -6;
    private static final int LOW = Integer.MIN_VALUE, HIGH = Integer.MAX_VALUE;
    private static final Due DUE = new Due("PromisesTest");

    private PromisesTest() {
    }

    public static void main(String[] args) {
        constants();
        newObject();
        setUp();
        wall();
        role();
        wire();
        turn();
        cellsOfTheGrid();
        cellsOfPassesAndGroups();
        put();
        wipe();
        fault();
        load();
        falling();
        pair();
        unpair();
        tuples();
        determinant();
        steps();
        shortest();
        flow();
        pass();
        changed();
        bestTurns();
        cover();
        group();
        step();
        back();
        route();
        about();
        meeting();
        exchange();
        check();
        count();
        save();
        restore();
        DUE.end();
    }

    private static void due(String call, long got, long want) {
        DUE.same(call, got, want);
    }

    /** Steps along cells in a slot. */
    private static void go(RouteProofs x, int slot, int... cells) {
        for (int cell : cells) {
            x.step(slot, cell);
        }
    }

    private static void dueRoute(String title, RouteProofs x, int slot, int... cells) {
        due(title + ": length of route " + slot, x.route(slot, -1), cells.length);
        for (int index = 0; index < cells.length; index++) {
            due(title + ": route(" + slot + ", " + index + ")", x.route(slot, index), cells[index]);
        }
    }

    private static void constants() {
        due("NO_SUCH", RouteProofs.NO_SUCH, -1);
        due("BAD_VALUE", RouteProofs.BAD_VALUE, -2);
        due("BAD_TEXT", RouteProofs.BAD_TEXT, -3);
        due("TOO_MANY", RouteProofs.TOO_MANY, -4);
        due("NOT_POSSIBLE", RouteProofs.NOT_POSSIBLE, -5);
        due("NONE", RouteProofs.NONE, -6);
        due("GONE", RouteProofs.GONE, -1000000000000000000L);
        due("NOTHING", RouteProofs.NOTHING, 0);
        due("SOURCE", RouteProofs.SOURCE, 1);
        due("TARGET", RouteProofs.TARGET, 2);
        due("MARKED", RouteProofs.MARKED, 3);
    }

    private static void dueFresh(String title, RouteProofs x, int width, int height) {
        int[] counts = {width, height, 0, 0, 0, 0, 0, 0};
        for (int what = 0; what < counts.length; what++) {
            due(title + ": count(" + what + ")", x.count(what), counts[what]);
        }
        for (int cell = 0; cell < width * height; cell++) {
            due(title + ": cell(" + cell + ", 0)", x.cell(cell, 0), 0);
            due(title + ": cell(" + cell + ", 1)", x.cell(cell, 1), 0);
            due(title + ": cell(" + cell + ", 2)", x.cell(cell, 2), 0);
        }
        due(title + ": a cell too many", x.cell(width * height, 0), NO_SUCH);
        for (int slot = 0; slot < 5; slot++) {
            due(title + ": route(" + slot + ", -1)", x.route(slot, -1), 0);
            due(title + ": route(" + slot + ", 0)", x.route(slot, 0), NONE);
        }
        due(title + ": tuples()", x.tuples(), 1);
        due(title + ": determinant()", x.determinant(), 1);
        due(title + ": unpair()", x.unpair(), 0);
    }

    private static void newObject() {
        RouteProofs x = new RouteProofs();
        dueFresh("new", x, 6, 6);
        due("new: pad", x.count(8), 0);
        due("new: fault()", x.fault(), 0);
        due("new: restore(0)", x.restore(0), NOT_POSSIBLE);
        due("new: restore(1)", x.restore(1), NOT_POSSIBLE);
        RouteProofs other = new RouteProofs();
        x.wall(0, 1);
        due("objects are apart", other.count(2), 0);
    }

    /** An object in which everything that setUp() and load() have to empty is there. */
    private static RouteProofs full() {
        RouteProofs x = new RouteProofs();
        x.wall(1, 1);
        x.role(0, 1);
        x.role(2, 2);
        x.role(3, 3);
        x.wire(0, 0);
        x.wire(3, 1);
        x.pair(0, 35);
        for (int slot = 0; slot < 5; slot++) {
            go(x, slot, slot + 6, slot + 12);
        }
        return x;
    }

    private static void setUp() {
        for (int width = 2; width <= 8; width++) {
            for (int height = 2; height <= 8; height++) {
                RouteProofs x = full();
                due("setUp(" + width + ", " + height + ")", x.setUp(width, height), width * height);
                dueFresh("setUp", x, width, height);
            }
        }
        RouteProofs x = full();
        int[][] wrong = {{1, 4}, {4, 1}, {9, 4}, {4, 9}, {0, 0}, {-3, 5}, {LOW, 4}, {4, LOW}, {HIGH, 4}, {4, HIGH}};
        for (int[] size : wrong) {
            due("setUp(" + size[0] + ", " + size[1] + ")", x.setUp(size[0], size[1]), BAD_VALUE);
        }
        due("setUp wrong: width", x.count(0), 6);
        due("setUp wrong: walls", x.count(2), 1);
        due("setUp wrong: slots", x.count(7), 31);
        due("setUp wrong: pairs", x.count(6), 1);
        x.put('.');
        x.save(1);
        x.setUp(3, 2);
        due("setUp leaves the pad", x.count(8), 1);
        due("setUp leaves the places", x.restore(1), 1);
        due("setUp leaves the place's width", x.count(0), 6);
    }

    private static void wall() {
        RouteProofs x = new RouteProofs();
        due("wall(0, 1)", x.wall(0, 1), 1);
        due("wall(35, 1)", x.wall(35, 1), 2);
        due("wall(35, 1) again", x.wall(35, 1), 2);
        due("cell(35, 0)", x.cell(35, 0), 1);
        due("wall(0, 0)", x.wall(0, 0), 1);
        due("wall(0, 0) again", x.wall(0, 0), 1);
        due("cell(0, 0)", x.cell(0, 0), 0);
        due("wall(-1, 1)", x.wall(-1, 1), NO_SUCH);
        due("wall(36, 1)", x.wall(36, 1), NO_SUCH);
        due("wall(64, 1)", x.wall(64, 1), NO_SUCH);
        due("wall(36, 2)", x.wall(36, 2), NO_SUCH);
        due("wall(3, 2)", x.wall(3, 2), BAD_VALUE);
        due("wall(3, -1)", x.wall(3, -1), BAD_VALUE);
        due("wall(LOW, LOW)", x.wall(LOW, LOW), NO_SUCH);
        due("wall(HIGH, 0)", x.wall(HIGH, 0), NO_SUCH);
        due("wall wrong changes nothing", x.count(2), 1);
        x.setUp(8, 8);
        due("wall(63, 1)", x.wall(63, 1), 1);
        due("cell(63, 0)", x.cell(63, 0), 1);
        for (int cell = 0; cell < 64; cell++) {
            x.wall(cell, 1);
        }
        due("all walls", x.count(2), 64);
    }

    private static void role() {
        RouteProofs x = new RouteProofs();
        due("role(5, 1)", x.role(5, 1), 0);
        due("role(5, 2)", x.role(5, 2), 1);
        due("role(5, 3)", x.role(5, 3), 2);
        due("role(5, 3) again", x.role(5, 3), 3);
        due("role(5, 0)", x.role(5, 0), 3);
        due("cell(5, 1)", x.cell(5, 1), 0);
        x.wall(7, 1);
        due("role of a wall", x.role(7, 1), 0);
        due("role of a wall stands", x.cell(7, 1), 1);
        due("a wall is no source", x.count(3), 0);
        x.wall(7, 0);
        due("an open cell is one", x.count(3), 1);
        due("role(-1, 1)", x.role(-1, 1), NO_SUCH);
        due("role(36, 9)", x.role(36, 9), NO_SUCH);
        due("role(7, 4)", x.role(7, 4), BAD_VALUE);
        due("role(7, -1)", x.role(7, -1), BAD_VALUE);
        due("role(HIGH, 0)", x.role(HIGH, 0), NO_SUCH);
        due("role(7, LOW)", x.role(7, LOW), BAD_VALUE);
        due("role wrong changes nothing", x.cell(7, 1), 1);
    }

    private static void wire() {
        RouteProofs x = new RouteProofs();
        due("wire(0, 3)", x.wire(0, 3), 1);
        due("wire(0, 4)", x.wire(0, 4), 2);
        due("wire(3, 3)", x.wire(3, 3), 1);
        due("cell(3, 2)", x.cell(3, 2), 9);
        due("cell(4, 2)", x.cell(4, 2), 1);
        due("wire(0, 3) out", x.wire(0, 3), 1);
        due("cell(3, 2) then", x.cell(3, 2), 8);
        due("wire(3, 3) out", x.wire(3, 3), 0);
        due("wire(-1, 0)", x.wire(-1, 0), NO_SUCH);
        due("wire(4, 0)", x.wire(4, 0), NO_SUCH);
        due("wire(0, 36)", x.wire(0, 36), NO_SUCH);
        due("wire(0, -1)", x.wire(0, -1), NO_SUCH);
        due("wire(HIGH, LOW)", x.wire(HIGH, LOW), NO_SUCH);
        due("wire makes no walls", x.count(2), 0);
    }

    private static void turn() {
        RouteProofs x = new RouteProofs();
        due("turn an empty switch", x.turn(1), 0);
        x.wall(8, 1);
        x.wire(1, 8);
        x.wire(1, 9);
        x.wire(1, 10);
        due("turn(1)", x.turn(1), 2);
        due("the wall is open", x.cell(8, 0), 0);
        due("the open one is a wall", x.cell(9, 0), 1);
        due("turn(1) back", x.turn(1), 1);
        due("the wall is one again", x.cell(8, 0), 1);
        due("turn(0)", x.turn(0), 1);
        due("the set stays", x.cell(9, 2), 2);
        due("turn(-1)", x.turn(-1), NO_SUCH);
        due("turn(4)", x.turn(4), NO_SUCH);
        due("turn(LOW)", x.turn(LOW), NO_SUCH);
        due("turn(HIGH)", x.turn(HIGH), NO_SUCH);
        go(x, 0, 0, 1);
        x.wire(2, 1);
        x.turn(2);
        due("a route stays", x.route(0, -1), 2);
    }

    private static void cellsOfTheGrid() {
        RouteProofs x = Texts.grid("s.#/..T/m#.");
        due("cell(2, 0)", x.cell(2, 0), 1);
        due("cell(5, 0)", x.cell(5, 0), 1);
        due("cell(0, 1)", x.cell(0, 1), 1);
        due("cell(5, 1)", x.cell(5, 1), 2);
        due("cell(6, 1)", x.cell(6, 1), 3);
        due("adjacent to a corner", x.cell(0, 3), 2);
        due("adjacent to the middle", x.cell(4, 3), 2);
        due("adjacent to a wall", x.cell(2, 3), 1);
        due("adjacent to none", x.cell(8, 3), 0);
        due("a row's end is not adjacent to the next row's start", x.cell(3, 3), 3);
        due("behind 0", x.cell(0, 4), 5);
        due("behind 1", x.cell(1, 4), 2);
        due("behind itself alone", x.cell(8, 4), 1);
        due("behind a wall", x.cell(2, 4), 0);
        due("cell(-1, 0)", x.cell(-1, 0), NO_SUCH);
        due("cell(9, 0)", x.cell(9, 0), NO_SUCH);
        due("cell(9, 99)", x.cell(9, 99), NO_SUCH);
        due("cell(0, 9)", x.cell(0, 9), BAD_VALUE);
        due("cell(0, -1)", x.cell(0, -1), BAD_VALUE);
        due("cell(HIGH, HIGH)", x.cell(HIGH, HIGH), NO_SUCH);
        due("cell(0, LOW)", x.cell(0, LOW), BAD_VALUE);
        RouteProofs wide = new RouteProofs();
        wide.setUp(8, 8);
        due("behind all", wide.cell(0, 4), 64);
        due("behind the last", wide.cell(63, 4), 1);
        due("adjacent to four", wide.cell(9, 3), 4);
        due("adjacent to three", wide.cell(8, 3), 3);
        due("adjacent to the last", wide.cell(63, 3), 2);
    }

    private static void cellsOfPassesAndGroups() {
        RouteProofs x = Texts.grid("s...t/##.##/m...m");
        int[] near = {1, 0, 0, 0, 0};
        int[] far = {0, 0, 0, 0, 1};
        for (int cell = 0; cell < 5; cell++) {
            due("cell(" + cell + ", 5)", x.cell(cell, 5), near[cell]);
            due("cell(" + cell + ", 6)", x.cell(cell, 6), far[cell]);
        }
        RouteProofs marks = Texts.grid("m.m/.m./m.m");
        int[] first = {0, 0, 1, 0, 1, 0, 1, 0, 0};
        for (int cell = 0; cell < 9; cell++) {
            due("cell(" + cell + ", 7)", marks.cell(cell, 7), first[cell]);
            due("cell(" + cell + ", 8)", marks.cell(cell, 8), first[cell]);
        }
        RouteProofs row = Texts.grid("m.m/###/...");
        due("the first group has the lower one", row.cell(0, 7), 1);
        due("and not the other", row.cell(2, 7), 0);
        due("which is in another greatest group", row.cell(2, 8), 1);
        due("an unmarked cell is in none", row.cell(1, 8), 0);
        row.wall(2, 1);
        due("nor is a wall", row.cell(2, 8), 0);
    }

    private static void put() {
        RouteProofs x = new RouteProofs();
        due("put one", x.put('s'), 1);
        due("put eight", x.put(Texts.packed("./######")), 9);
        due("put 33", x.put(33), 10);
        due("put 126", x.put(126), 11);
        due("put nothing", x.put(0), BAD_VALUE);
        due("put 32", x.put(32), BAD_VALUE);
        due("put 127", x.put(127), BAD_VALUE);
        due("put a bad code in the middle", x.put('.' << 16 | 32 << 8 | '.'), BAD_VALUE);
        due("put a hole", x.put('.' << 16 | '.'), BAD_VALUE);
        due("put a hole at the end", x.put('.' << 8), BAD_VALUE);
        due("put a bit above a hole", x.put(1L << 63 | '.'), BAD_VALUE);
        due("put a bad first of eight", x.put(Texts.packed("......." ) | 0x80L << 56), BAD_VALUE);
        due("put the lowest", x.put(Long.MIN_VALUE), BAD_VALUE);
        due("put -1", x.put(-1), BAD_VALUE);
        due("wrong ones change nothing", x.count(8), 11);
        x.wipe();
        for (int round = 1; round <= 9; round++) {
            due("put round " + round, x.put(Texts.packed("........")), 8 * round);
        }
        due("put up to 79", x.put(Texts.packed(".......")), 79);
        due("put beyond 80", x.put(Texts.packed("..")), TOO_MANY);
        due("a bad code comes first", x.put(32 << 8 | '.'), BAD_VALUE);
        due("put the 80th", x.put('.'), 80);
        due("put the 81st", x.put('.'), TOO_MANY);
        due("the pad stays", x.count(8), 80);
        RouteProofs order = new RouteProofs();
        order.put(Texts.packed("s#/"));
        order.put(Texts.packed("tm"));
        order.load();
        due("the order of characters: 0", order.cell(0, 1), 1);
        due("the order of characters: 1", order.cell(1, 0), 1);
        due("the order of characters: 2", order.cell(2, 1), 2);
        due("the order of characters: 3", order.cell(3, 1), 3);
    }

    private static void wipe() {
        RouteProofs x = new RouteProofs();
        due("wipe an empty pad", x.wipe(), 0);
        Texts.putAll(x, "ab/cdefghij");
        due("wipe", x.wipe(), 11);
        due("wiped", x.count(8), 0);
        due("wipe again", x.wipe(), 0);
        Texts.putAll(x, "../..");
        due("a wiped pad is a new one", x.fault(), NONE);
    }

    private static void dueFault(String text, int want) {
        RouteProofs x = new RouteProofs();
        Texts.putAll(x, text);
        due("fault of " + text, x.fault(), want);
    }

    private static void fault() {
        dueFault("", 0);
        dueFault(".", 1);
        dueFault("..", 2);
        dueFault("../", 3);
        dueFault("../.", 4);
        dueFault("../..", NONE);
        dueFault("../../", 6);
        dueFault("../...", 5);
        dueFault("./..", 1);
        dueFault("/", 0);
        dueFault("..//..", 3);
        dueFault("../././", 4);
        dueFault("sS/tT/mM/.#", NONE);
        dueFault("sx", 1);
        dueFault("../.R", 4);
        dueFault("........", 8);
        dueFault("........./", 8);
        dueFault("......../........", NONE);
        dueFault("......../.........", 17);
        dueFault("../../../../../../../..", NONE);
        dueFault("../../../../../../../../", 23);
        dueFault("../../../../../../../...", 23);
        dueFault("../../../../../../../.", 22);
        String full = "......../......../......../......../......../......../......../........";
        dueFault(full, NONE);
        dueFault(full + "........", 71);
        dueFault(full + "/", 71);
        dueFault(full.substring(0, 70), 70);
    }

    private static void load() {
        RouteProofs x = full();
        Texts.putAll(x, "../..");
        due("load()", x.load(), 4);
        dueFresh("load", x, 2, 2);
        due("load empties the pad", x.count(8), 0);
        RouteProofs y = full();
        due("load an empty pad", y.load(), BAD_TEXT);
        Texts.putAll(y, "../.");
        due("load a fault", y.load(), BAD_TEXT);
        due("a fault keeps the pad", y.count(8), 4);
        due("a fault keeps the width", y.count(0), 6);
        due("a fault keeps the walls", y.count(2), 1);
        due("a fault keeps the slots", y.count(7), 31);
        y.put('#');
        due("load when mended", y.load(), 4);
        due("its wall", y.cell(3, 0), 1);
        String signs = ".#sStTmM";
        RouteProofs all = Texts.grid(signs + "/" + signs);
        int[] roles = {0, 0, 1, 1, 2, 2, 3, 3};
        for (int cell = 0; cell < 16; cell++) {
            due("load: cell(" + cell + ", 0)", all.cell(cell, 0), cell & 1);
            due("load: cell(" + cell + ", 1)", all.cell(cell, 1), roles[cell & 7]);
        }
        due("load: width", all.count(0), 8);
        due("load: height", all.count(1), 2);
        RouteProofs high = Texts.grid("../../../../../../../.#");
        due("load: eight rows", high.count(1), 8);
        due("load: the last cell", high.cell(15, 0), 1);
    }

    private static void falling() {
        RouteProofs x = new RouteProofs();
        due("falling(0, 35)", x.falling(0, 35), 252);
        due("falling(0, 0)", x.falling(0, 0), 1);
        due("falling(7, 0)", x.falling(7, 0), 0);
        due("falling(5, 6)", x.falling(5, 6), 0);
        due("falling up and right", x.falling(6, 1), 0);
        x.wall(14, 1);
        due("falling around a wall", x.falling(0, 35), 252 - 6 * 20);
        due("falling from a wall", x.falling(14, 35), 0);
        due("falling to a wall", x.falling(0, 14), 0);
        due("falling within a wall", x.falling(14, 14), 0);
        due("falling(-1, 0)", x.falling(-1, 0), RouteProofs.GONE + NO_SUCH);
        due("falling(0, 36)", x.falling(0, 36), RouteProofs.GONE + NO_SUCH);
        due("falling(HIGH, LOW)", x.falling(HIGH, LOW), RouteProofs.GONE + NO_SUCH);
        x.setUp(8, 8);
        due("falling(0, 63)", x.falling(0, 63), 3432);
        x.setUp(2, 8);
        due("falling in a narrow grid", x.falling(0, 15), 8);
    }

    private static void pair() {
        RouteProofs x = new RouteProofs();
        due("pair(-1, 0)", x.pair(-1, 0), NO_SUCH);
        due("pair(0, 36)", x.pair(0, 36), NO_SUCH);
        due("pair(LOW, HIGH)", x.pair(LOW, HIGH), NO_SUCH);
        due("none yet", x.count(6), 0);
        x.wall(3, 1);
        due("pair 0", x.pair(0, 3), 0);
        due("pair 1", x.pair(5, 5), 1);
        due("pair 2", x.pair(35, 0), 2);
        due("pair 3", x.pair(0, 3), 3);
        due("pair 4", x.pair(0, 1), TOO_MANY);
        due("a wrong cell comes first", x.pair(0, 36), NO_SUCH);
        due("four", x.count(6), 4);
    }

    private static void unpair() {
        RouteProofs x = new RouteProofs();
        due("unpair() without pairs", x.unpair(), 0);
        x.pair(0, 35);
        x.pair(1, 34);
        x.pair(1, 34);
        due("unpair()", x.unpair(), 3);
        due("none then", x.count(6), 0);
        due("tuples() then", x.tuples(), 1);
        due("a pair is the first again", x.pair(0, 7), 0);
        due("and alone", x.tuples(), 2);
    }

    private static RouteProofs pairs(int width, int height, int... cells) {
        RouteProofs x = new RouteProofs();
        x.setUp(width, height);
        for (int index = 0; index < cells.length; index += 2) {
            x.pair(cells[index], cells[index + 1]);
        }
        return x;
    }

    private static void tuples() {
        due("tuples of one", pairs(6, 6, 0, 35).tuples(), 252);
        due("tuples of one back", pairs(6, 6, 35, 0).tuples(), 0);
        due("tuples of a cell", pairs(6, 6, 8, 8).tuples(), 1);
        due("tuples of a cell twice", pairs(6, 6, 8, 8, 8, 8).tuples(), 0);
        due("tuples of two cells", pairs(6, 6, 8, 8, 9, 9).tuples(), 1);
        due("tuples around a cell", pairs(3, 3, 0, 8, 4, 4).tuples(), 2);
        due("a cell as the first pair", pairs(3, 3, 4, 4, 0, 8).tuples(), 2);
        due("tuples around two cells", pairs(3, 3, 0, 8, 6, 6, 4, 4).tuples(), 1);
        due("tuples between two cells", pairs(3, 3, 2, 2, 6, 6, 0, 8).tuples(), 4);
        due("a cell at the edge comes last", pairs(3, 3, 0, 8, 4, 4, 6, 6, 2, 2).tuples(), 0);
        due("tuples at an end", pairs(3, 3, 0, 4, 4, 8).tuples(), 0);
        due("tuples one behind the other", pairs(3, 3, 0, 1, 4, 8).tuples(), 2);
        due("tuples that cross", pairs(4, 4, 1, 14, 4, 11).tuples(), 0);
        due("tuples that do not", pairs(4, 4, 1, 11, 4, 14).tuples(), 20);
        RouteProofs four = pairs(8, 8, 3, 31, 2, 39, 1, 47, 0, 55);
        due("tuples of four", four.tuples(), four.determinant());
        due("tuples of four again", four.tuples(), four.determinant());
        RouteProofs walls = pairs(3, 3, 0, 8);
        walls.wall(4, 1);
        due("tuples around a wall", walls.tuples(), 2);
        walls.wall(8, 1);
        due("tuples to a wall", walls.tuples(), 0);
        walls.wall(8, 0);
        walls.wall(0, 1);
        due("tuples from a wall", walls.tuples(), 0);
        due("tuples of none", new RouteProofs().tuples(), 1);
    }

    private static void determinant() {
        due("determinant of none", new RouteProofs().determinant(), 1);
        due("determinant of one", pairs(6, 6, 0, 35).determinant(), 252);
        due("determinant of a lost one", pairs(6, 6, 35, 0).determinant(), 0);
        due("determinant of two", pairs(4, 4, 1, 11, 4, 14).determinant(), 20);
        due("determinant of two, crossed", pairs(4, 4, 1, 14, 4, 11).determinant(), -20);
        due("determinant of two alike", pairs(4, 4, 1, 14, 1, 14).determinant(), 0);
        due("determinant of three cells", pairs(4, 4, 12, 12, 9, 9, 3, 3).determinant(), 1);
        due("determinant of three, turned", pairs(4, 4, 12, 9, 9, 3, 3, 12).determinant(), 1);
        due("determinant of four, turned", pairs(4, 4, 12, 9, 9, 6, 6, 3, 3, 12).determinant(), -1);
        due("the order of the pairs is free", pairs(4, 4, 4, 14, 1, 11).determinant(), 20);
        RouteProofs walls = pairs(4, 4, 1, 11, 4, 14);
        walls.wall(6, 1);
        walls.wall(9, 1);
        due("determinant with walls", walls.determinant(), walls.tuples());
        RouteProofs great = pairs(8, 8, 0, 63, 0, 63, 1, 62, 8, 55);
        due("determinant of two rows alike", great.determinant(), 0);
    }

    private static void steps() {
        RouteProofs x = Texts.grid("..#./.##./....");
        due("steps(0, 0)", x.steps(0, 0), 0);
        due("steps(0, 1)", x.steps(0, 1), 1);
        due("steps(1, 3)", x.steps(1, 3), 8);
        due("steps(3, 1)", x.steps(3, 1), 8);
        due("steps in a wall", x.steps(2, 2), NONE);
        due("steps from a wall", x.steps(2, 3), NONE);
        due("steps to a wall", x.steps(3, 2), NONE);
        x.wall(9, 1);
        due("no steps", x.steps(1, 3), NONE);
        due("steps(-1, 0)", x.steps(-1, 0), NO_SUCH);
        due("steps(0, 12)", x.steps(0, 12), NO_SUCH);
        due("steps(2, HIGH)", x.steps(2, HIGH), NO_SUCH);
        RouteProofs snake = Texts.grid("......../#######./......../.#######/......../#######./......../.#######");
        due("steps of a snake", snake.steps(0, 56), 4 * 7 + 7);
    }

    private static void shortest() {
        RouteProofs x = new RouteProofs();
        int[] right = {0, 1, 2, 8, 14};
        for (int index = 0; index < right.length; index++) {
            due("shortest(0, 14, " + index + ")", x.shortest(0, 14, index), right[index]);
        }
        int[] up = {14, 8, 2, 1, 0};
        for (int index = 0; index < up.length; index++) {
            due("shortest(14, 0, " + index + ")", x.shortest(14, 0, index), up[index]);
        }
        int[] left = {2, 1, 0, 6, 12};
        for (int index = 0; index < left.length; index++) {
            due("shortest(2, 12, " + index + ")", x.shortest(2, 12, index), left[index]);
        }
        due("shortest(0, 14, 5)", x.shortest(0, 14, 5), NONE);
        due("shortest(0, 14, -1)", x.shortest(0, 14, -1), NONE);
        due("shortest(0, 14, HIGH)", x.shortest(0, 14, HIGH), NONE);
        due("shortest(0, 14, LOW)", x.shortest(0, 14, LOW), NONE);
        due("shortest(3, 3, 0)", x.shortest(3, 3, 0), 3);
        due("shortest(3, 3, 1)", x.shortest(3, 3, 1), NONE);
        x.wall(2, 1);
        due("shortest around a wall", x.shortest(0, 14, 2), 7);
        due("shortest from a wall", x.shortest(2, 2, 0), NONE);
        due("shortest(36, 0, 0)", x.shortest(36, 0, 0), NO_SUCH);
        due("shortest(0, -1, LOW)", x.shortest(0, -1, LOW), NO_SUCH);
    }

    private static void flow() {
        due("flow of none", new RouteProofs().flow(), 0);
        due("flow of one", Texts.grid("s.t/...").flow(), 1);
        due("flow of adjacent ones", Texts.grid("st/ts").flow(), 2);
        due("flow through a pass", Texts.grid("s.#.t/s...t/s.#.t").flow(), 1);
        due("flow through two", Texts.grid("s...t/s.#.t/s...t").flow(), 2);
        due("flow through further sources", Texts.grid("sst/###").flow(), 1);
        due("flow that must give way", Texts.grid("#s##/s..t/.##./...t").flow(), 2);
        due("flow that takes back a cell", Texts.grid("...s..t/s....#./.s.t..t").flow(), 3);
        due("flow that takes back a step", Texts.grid("t.t/#s./.t#/ss.").flow(), 2);
        due("flow without targets", Texts.grid("ss/ss").flow(), 0);
        due("flow without sources", Texts.grid("tt/tt").flow(), 0);
        due("flow of walls", Texts.grid("ST/ST").flow(), 0);
        due("flow behind walls", Texts.grid("s#t/s#t").flow(), 0);
        String rows = "stststst/tststsTs";
        due("flow of many", Texts.grid(rows + "/" + rows + "/" + rows + "/" + rows).flow(), 28);
    }

    private static void duePass(String text, int far, int... cells) {
        RouteProofs x = Texts.grid(text);
        for (int index = 0; index < cells.length; index++) {
            due("pass(" + far + ", " + index + ") of " + text, x.pass(far, index), cells[index]);
        }
        due("pass(" + far + ", " + cells.length + ") of " + text, x.pass(far, cells.length), NONE);
        due("pass(" + far + ", -1) of " + text, x.pass(far, -1), NONE);
    }

    private static void pass() {
        duePass("s.#.t/s...t/s.#.t", 0, 6);
        duePass("s.#.t/s...t/s.#.t", 1, 8);
        duePass("s#...#t/s.....t/s#...#t", 0, 7);
        duePass("s#...#t/s.....t/s#...#t", 1, 13);
        duePass("s...t/s.#.t/s...t", 0, 1, 11);
        duePass("s...t/s.#.t/s...t", 1, 3, 13);
        duePass("s..../..t../.....", 0, 0);
        duePass("s..../..t../.....", 1, 7);
        duePass("s.../####/...t", 0);
        duePass("s.../####/...t", 1);
        duePass("sst/###", 0, 1);
        duePass("sst/###", 1, 2);
        RouteProofs x = Texts.grid("s.t/...");
        due("pass(2, 0)", x.pass(2, 0), BAD_VALUE);
        due("pass(-1, -1)", x.pass(-1, -1), BAD_VALUE);
        due("pass(LOW, 0)", x.pass(LOW, 0), BAD_VALUE);
        due("pass(0, HIGH)", x.pass(0, HIGH), NONE);
        due("pass(1, LOW)", x.pass(1, LOW), NONE);
    }

    private static void changed() {
        RouteProofs x = Texts.grid("s.#.t/s...t/s.#.t/S...#");
        due("a pass more", x.changed(2), 3);
        due("the pass less", x.changed(7), 1);
        due("both passes less", x.flow(), 2);
        due("a source less", x.changed(0), 2);
        due("a wall with a role", x.changed(15), 2);
        due("nothing has changed", x.count(2), 4);
        due("nor has the flow", x.flow(), 2);
        due("changed(-1)", x.changed(-1), NO_SUCH);
        due("changed(20)", x.changed(20), NO_SUCH);
        due("changed(HIGH)", x.changed(HIGH), NO_SUCH);
        RouteProofs role = Texts.grid("S.t/###");
        due("a source more", role.changed(0), 1);
        role.wall(0, 0);
        due("a source less", role.changed(0), 0);
        due("a target less", role.changed(2), 0);
    }

    private static void bestTurns() {
        RouteProofs x = Texts.grid("s#t/s#t/s#t");
        due("no switch", x.bestTurns(0), 0);
        due("no flow", x.bestTurns(1), 0);
        x.wire(2, 1);
        x.wire(3, 4);
        due("two switches", x.bestTurns(0), 12);
        due("two routes", x.bestTurns(1), 2);
        x.wire(1, 1);
        x.wire(1, 4);
        due("one switch for two", x.bestTurns(0), 2);
        x.wire(3, 1);
        due("the lowest mask of one switch", x.bestTurns(0), 2);
        x.wire(0, 7);
        due("three routes", x.bestTurns(1), 3);
        due("by two switches", x.bestTurns(0), 3);
        due("nothing has been turned", x.count(2), 3);
        x.turn(0);
        x.turn(1);
        due("none to turn", x.bestTurns(0), 0);
        due("three routes now", x.flow(), 3);
        due("bestTurns(2)", x.bestTurns(2), BAD_VALUE);
        due("bestTurns(-1)", x.bestTurns(-1), BAD_VALUE);
        due("bestTurns(LOW)", x.bestTurns(LOW), BAD_VALUE);
        RouteProofs fewest = Texts.grid("s#t/###");
        fewest.wire(0, 4);
        fewest.wire(1, 1);
        fewest.wire(1, 4);
        fewest.wire(3, 1);
        due("fewest, then lowest", fewest.bestTurns(0), 2);
        RouteProofs later = Texts.grid("s##t/####");
        later.wire(0, 1);
        later.wire(1, 2);
        later.wire(3, 1);
        later.wire(3, 2);
        due("one high switch before two low ones", later.bestTurns(0), 8);
    }

    private static void cover() {
        due("cover none", new RouteProofs().cover(), 0);
        due("cover one", Texts.grid("m./..").cover(), 1);
        due("cover a row", Texts.grid("mmm/...").cover(), 1);
        due("cover all", Texts.grid("mmm/mmm/mmm").cover(), 3);
        due("cover a diagonal", Texts.grid("..m/.m./m..").cover(), 3);
        due("cover the other diagonal", Texts.grid("m../.m./..m").cover(), 1);
        due("cover over a wall", Texts.grid("m#m/###").cover(), 2);
        due("cover around a wall", Texts.grid("m#m/...").cover(), 2);
        due("cover without walls", Texts.grid("M#M/m..").cover(), 1);
        due("routes may share cells", Texts.grid("m.#m/#..#/m#.m").cover(), 3);
        due("cover a chessboard", Texts.grid("m#m#m#m#/#m#m#m#m/m#m#m#m#/#m#m#m#m/m#m#m#m#/#m#m#m#m/m#m#m#m#/#m#m#m#m").cover(), 32);
        due("a greedy way would take three", Texts.grid("mm#/#mm/##m").cover(), 1);
    }

    private static void dueGroup(String text, int... cells) {
        RouteProofs x = Texts.grid(text);
        for (int index = 0; index < cells.length; index++) {
            due("group(" + index + ") of " + text, x.group(index), cells[index]);
        }
        due("group(" + cells.length + ") of " + text, x.group(cells.length), NONE);
        due("group(-1) of " + text, x.group(-1), NONE);
    }

    private static void group() {
        dueGroup("../..");
        dueGroup("m./..", 0);
        dueGroup("mmm/...", 0);
        dueGroup("mmm/mmm/mmm", 2, 4, 6);
        dueGroup("mmm/mmm", 1, 3);
        dueGroup("mm/mm/mm", 1, 2);
        dueGroup("M#m/m#m", 2, 3);
        dueGroup("m#m/..m/.m./m.m", 2, 7, 9);
        dueGroup("mm/mm/.m/.m/m#", 1, 2);
        dueGroup("mm#/mmm/m##/mmm/mm#", 1, 10, 12);
        dueGroup("mMm/mmm", 0, 2);
        RouteProofs x = Texts.grid("mm/mm");
        due("group(HIGH)", x.group(HIGH), NONE);
        due("group(LOW)", x.group(LOW), NONE);
    }

    private static void step() {
        RouteProofs x = new RouteProofs();
        due("step(0, 35)", x.step(0, 35), 1);
        due("step(0, 34)", x.step(0, 34), 2);
        due("step up", x.step(0, 28), 3);
        due("step right", x.step(0, 29), 4);
        due("step to a cell of the route", x.step(0, 35), NOT_POSSIBLE);
        due("step to the same cell", x.step(0, 29), NOT_POSSIBLE);
        due("step too far", x.step(0, 0), NOT_POSSIBLE);
        due("step over the edge", x.step(0, 30), NOT_POSSIBLE);
        due("step across", x.step(0, 22), NOT_POSSIBLE);
        x.wall(23, 1);
        due("step into a wall", x.step(0, 23), NOT_POSSIBLE);
        due("start in a wall", x.step(4, 23), NOT_POSSIBLE);
        due("start in another slot", x.step(4, 29), 1);
        due("step(-1, 0)", x.step(-1, 0), NO_SUCH);
        due("step(5, 0)", x.step(5, 0), NO_SUCH);
        due("step(0, 36)", x.step(0, 36), NO_SUCH);
        due("step(0, -1)", x.step(0, -1), NO_SUCH);
        due("step(HIGH, LOW)", x.step(HIGH, LOW), NO_SUCH);
        dueRoute("step", x, 0, 35, 34, 28, 29);
        x.wall(29, 1);
        due("step on from a wall", x.step(4, 28), 2);
        x.setUp(8, 8);
        for (int y = 0; y < 8; y++) {
            for (int x8 = 0; x8 < 8; x8++) {
                x.step(2, 8 * y + ((y & 1) == 0 ? x8 : 7 - x8));
            }
        }
        due("a route over all cells", x.route(2, -1), 64);
        due("its last cell", x.route(2, 63), 56);
        due("not further", x.step(2, 48), NOT_POSSIBLE);
    }

    private static void back() {
        RouteProofs x = new RouteProofs();
        due("back of an empty one", x.back(0), NOT_POSSIBLE);
        go(x, 1, 0, 1, 2);
        due("back(1)", x.back(1), 2);
        due("the dropped cell is free", x.step(1, 2), 3);
        due("back(1) again", x.back(1), 2);
        due("back(1) once more", x.back(1), 1);
        due("back to none", x.back(1), 0);
        due("and no further", x.back(1), NOT_POSSIBLE);
        due("any start then", x.step(1, 30), 1);
        due("back(-1)", x.back(-1), NO_SUCH);
        due("back(5)", x.back(5), NO_SUCH);
        due("back(LOW)", x.back(LOW), NO_SUCH);
    }

    private static void route() {
        RouteProofs x = new RouteProofs();
        due("an empty one", x.route(0, -1), 0);
        go(x, 3, 7, 8, 14);
        due("route(3, 0)", x.route(3, 0), 7);
        due("route(3, 2)", x.route(3, 2), 14);
        due("route(3, 3)", x.route(3, 3), NONE);
        due("route(3, -1)", x.route(3, -1), 3);
        due("route(3, -2)", x.route(3, -2), NONE);
        due("route(3, HIGH)", x.route(3, HIGH), NONE);
        due("route(3, LOW)", x.route(3, LOW), NONE);
        due("route(0, 0)", x.route(0, 0), NONE);
        x.back(3);
        due("a dropped cell", x.route(3, 2), NONE);
        due("route(5, 0)", x.route(5, 0), NO_SUCH);
        due("route(-1, -1)", x.route(-1, -1), NO_SUCH);
        due("route(HIGH, HIGH)", x.route(HIGH, HIGH), NO_SUCH);
    }

    private static void dueAbout(String title, RouteProofs x, int slot, int... properties) {
        for (int what = 0; what < properties.length; what++) {
            due(title + ": about(" + slot + ", " + what + ")", x.about(slot, what), properties[what]);
        }
    }

    private static void about() {
        RouteProofs x = Texts.grid("sm.t/.m../M..t");
        dueAbout("empty", x, 0, 1, 1, 0, 0, 0);
        go(x, 0, 0, 1, 2, 3);
        dueAbout("straight", x, 0, 1, 1, 1, 1, 0);
        go(x, 1, 0, 4, 5, 6, 2, 3);
        dueAbout("with a step up", x, 1, 1, 0, 1, 1, 1);
        go(x, 2, 3, 2, 1, 0);
        dueAbout("the other way", x, 2, 1, 0, 0, 1, 3);
        go(x, 4, 9, 10, 11);
        dueAbout("apart", x, 4, 1, 1, 0, 0, 0);
        dueAbout("all met", x, 0, 1, 1, 1, 1, 6);
        go(x, 3, 0);
        dueAbout("one cell", x, 3, 1, 1, 0, 0, 7);
        x.wall(1, 1);
        dueAbout("with a wall", x, 0, 0, 0, 0, 0, 14);
        dueAbout("past it", x, 1, 1, 0, 1, 1, 13);
        x.wall(1, 0);
        x.role(3, 0);
        dueAbout("to no target", x, 0, 1, 1, 0, 1, 14);
        x.role(3, 2);
        x.role(0, 2);
        dueAbout("from no source", x, 0, 1, 1, 0, 1, 14);
        due("about(0, 5)", x.about(0, 5), BAD_VALUE);
        due("about(0, -1)", x.about(0, -1), BAD_VALUE);
        due("about(0, HIGH)", x.about(0, HIGH), BAD_VALUE);
        due("about(5, 0)", x.about(5, 0), NO_SUCH);
        due("about(-1, 9)", x.about(-1, 9), NO_SUCH);
        due("about(LOW, LOW)", x.about(LOW, LOW), NO_SUCH);
        RouteProofs open = Texts.grid("mM/m.");
        go(open, 0, 0, 2, 3);
        due("different open marked cells", open.about(0, 3), 2);
    }

    private static void meeting() {
        RouteProofs x = new RouteProofs();
        due("empty ones", x.meeting(0, 1), NONE);
        go(x, 1, 0, 1, 2, 3, 4);
        go(x, 3, 15, 9, 3, 2, 1, 7);
        due("meeting(1, 3)", x.meeting(1, 3), 1);
        due("meeting(3, 1)", x.meeting(3, 1), 1);
        go(x, 0, 10, 4, 3, 2);
        due("meeting(0, 1)", x.meeting(0, 1), 4);
        due("meeting(1, 0)", x.meeting(1, 0), 4);
        due("meeting(0, 3)", x.meeting(0, 3), 3);
        go(x, 2, 35);
        due("apart", x.meeting(1, 2), NONE);
        x.wall(1, 1);
        due("in a wall", x.meeting(1, 3), 1);
        due("meeting(2, 2)", x.meeting(2, 2), BAD_VALUE);
        due("meeting(5, 5)", x.meeting(5, 5), NO_SUCH);
        due("meeting(0, 5)", x.meeting(0, 5), NO_SUCH);
        due("meeting(-1, 0)", x.meeting(-1, 0), NO_SUCH);
        due("meeting(HIGH, LOW)", x.meeting(HIGH, LOW), NO_SUCH);
    }

    private static void exchange() {
        RouteProofs x = new RouteProofs();
        due("empty ones", x.exchange(0, 1), NOT_POSSIBLE);
        go(x, 0, 0, 1, 2, 3);
        go(x, 1, 13, 7, 1);
        due("exchange(0, 1)", x.exchange(0, 1), 1);
        dueRoute("exchange", x, 0, 0, 1);
        dueRoute("exchange", x, 1, 13, 7, 1, 2, 3);
        due("exchange(1, 0)", x.exchange(1, 0), 1);
        dueRoute("back", x, 0, 0, 1, 2, 3);
        dueRoute("back", x, 1, 13, 7, 1);
        due("a cell that was taken is free", x.step(1, 2), 4);
        due("a cell that was given is not", x.step(1, 1), NOT_POSSIBLE);
        go(x, 2, 6, 7, 8);
        go(x, 3, 14, 8, 2, 1, 7);
        due("a cell twice", x.exchange(3, 2), NOT_POSSIBLE);
        dueRoute("as before", x, 2, 6, 7, 8);
        dueRoute("as before", x, 3, 14, 8, 2, 1, 7);
        go(x, 4, 35);
        due("apart", x.exchange(0, 4), NOT_POSSIBLE);
        x.wall(1, 1);
        due("in a wall", x.exchange(0, 1), 1);
        dueRoute("in a wall", x, 0, 0, 1, 2);
        dueRoute("in a wall", x, 1, 13, 7, 1, 2, 3);
        due("exchange(1, 1)", x.exchange(1, 1), BAD_VALUE);
        due("exchange(5, 5)", x.exchange(5, 5), NO_SUCH);
        due("exchange(-1, 0)", x.exchange(-1, 0), NO_SUCH);
        due("exchange(0, 5)", x.exchange(0, 5), NO_SUCH);
        due("exchange(LOW, HIGH)", x.exchange(LOW, HIGH), NO_SUCH);
    }

    private static void check() {
        RouteProofs x = Texts.grid("sm.t/sm.t/Mm.t");
        due("no slots", x.check(0, 0), 3);
        due("no slots as a proof", x.check(0, 1), 1);
        go(x, 0, 0, 1, 2, 3);
        go(x, 4, 4, 5, 6, 7);
        go(x, 2, 4, 5, 1, 2, 6, 7);
        go(x, 3, 9, 10, 11);
        due("on one route", x.check(1, 0), 2);
        due("on two routes", x.check(17, 0), 1);
        due("on all", x.check(29, 0), 0);
        due("one cell on two", x.check(5, 0), 1);
        due("two that do not meet", x.check(17, 1), 1);
        due("two that do", x.check(5, 1), 0);
        due("not from a source", x.check(8, 1), 0);
        due("an empty one", x.check(3, 1), 0);
        due("an empty one alone", x.check(2, 1), 0);
        x.wall(2, 1);
        due("not valid", x.check(1, 1), 0);
        due("valid", x.check(16, 1), 1);
        x.wall(1, 1);
        due("a wall is not marked", x.check(0, 0), 2);
        due("check(32, 0)", x.check(32, 0), NO_SUCH);
        due("check(33, 1)", x.check(33, 1), NO_SUCH);
        due("check(-1, 0)", x.check(-1, 0), NO_SUCH);
        due("check(LOW, 2)", x.check(LOW, 2), NO_SUCH);
        due("check(HIGH, 0)", x.check(HIGH, 0), NO_SUCH);
        due("check(1, 2)", x.check(1, 2), BAD_VALUE);
        due("check(31, -1)", x.check(31, -1), BAD_VALUE);
        RouteProofs three = Texts.grid("s..t/s..t");
        go(three, 0, 4, 5, 6, 7);
        go(three, 1, 0, 1, 2, 3);
        go(three, 3, 4, 5, 6, 7);
        due("the first and the second do not meet", three.check(3, 1), 1);
        due("the first and the third meet", three.check(11, 1), 0);
    }

    private static void count() {
        RouteProofs x = Texts.grid("sStTmM./sttmmm#");
        int[] counts = {7, 2, 4, 2, 3, 4, 0, 0, 0};
        for (int what = 0; what < counts.length; what++) {
            due("count(" + what + ")", x.count(what), counts[what]);
        }
        x.pair(0, 1);
        x.pair(0, 1);
        go(x, 0, 0);
        go(x, 3, 0);
        Texts.putAll(x, "abc");
        due("count pairs", x.count(6), 2);
        due("count slots", x.count(7), 9);
        due("count characters", x.count(8), 3);
        x.back(0);
        due("count slots then", x.count(7), 8);
        due("count(9)", x.count(9), BAD_VALUE);
        due("count(-1)", x.count(-1), BAD_VALUE);
        due("count(LOW)", x.count(LOW), BAD_VALUE);
        due("count(HIGH)", x.count(HIGH), BAD_VALUE);
    }

    private static void save() {
        RouteProofs x = full();
        due("save(0)", x.save(0), 1);
        x.wall(20, 1);
        due("save(1)", x.save(1), 2);
        due("save changes nothing", x.count(7), 31);
        due("save(0) again", x.save(0), 2);
        x.setUp(3, 3);
        due("overwritten", x.restore(0), 2);
        due("save(2)", x.save(2), BAD_VALUE);
        due("save(-1)", x.save(-1), BAD_VALUE);
        due("save(LOW)", x.save(LOW), BAD_VALUE);
        due("save(HIGH)", x.save(HIGH), BAD_VALUE);
    }

    private static void restore() {
        RouteProofs x = full();
        due("restore nothing", x.restore(1), NOT_POSSIBLE);
        x.save(1);
        due("the other place", x.restore(0), NOT_POSSIBLE);
        due("restore(2)", x.restore(2), BAD_VALUE);
        due("restore(-1)", x.restore(-1), BAD_VALUE);
        due("restore(LOW)", x.restore(LOW), BAD_VALUE);
        due("restore(HIGH)", x.restore(HIGH), BAD_VALUE);
        x.wall(30, 1);
        x.setUp(8, 2);
        x.role(15, 1);
        x.pair(0, 1);
        x.pair(0, 1);
        go(x, 0, 15, 14, 13);
        Texts.putAll(x, "....");
        due("restore(1)", x.restore(1), 1);
        due("width", x.count(0), 6);
        due("height", x.count(1), 6);
        due("a wall", x.cell(1, 0), 1);
        due("no wall", x.cell(30, 0), 0);
        due("a source", x.cell(0, 1), 1);
        due("a target", x.cell(2, 1), 2);
        due("a marked cell", x.cell(3, 1), 3);
        due("no source", x.cell(15, 1), 0);
        due("a switch", x.cell(0, 2), 1);
        due("another switch", x.cell(1, 2), 8);
        due("pairs", x.count(6), 1);
        due("the pair", x.tuples(), x.falling(0, 35));
        for (int slot = 0; slot < 5; slot++) {
            dueRoute("restored", x, slot, slot + 6, slot + 12);
            due("the cells of a restored route", x.step(slot, slot + 6), NOT_POSSIBLE);
        }
        due("the pad stays", x.count(8), 4);
        due("adjacent in the restored width", x.step(0, 18), 3);
        x.wall(2, 1);
        x.pair(0, 0);
        due("the place keeps it", x.restore(1), 1);
        dueRoute("kept", x, 0, 6, 12);
        due("kept pairs", x.count(6), 1);
    }
}
