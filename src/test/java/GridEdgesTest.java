/** The boundary cases that promises 1 to 11 name, sentence by sentence: the grid and the texts. */
public final class GridEdgesTest {
    private static final int NO_SUCH = -1, BAD_VALUE = -2, BAD_TEXT = -3, TOO_MANY = -4, NONE = -6;
    private static final int MOST_CHARACTERS = 80;
    private static final Sentences DOC = new Sentences("GridEdgesTest");

    private GridEdgesTest() {
    }

    public static void main(String[] args) {
        newObject();
        setUp();
        setUpRefused();
        wall();
        wallRefused();
        role();
        wire();
        turn();
        cellByItself();
        cellAmongOthers();
        cellInPasses();
        cellInGroups();
        cellRefused();
        put();
        putRefused();
        putTooMany();
        wipe();
        fault();
        load();
        loadRefused();
        DOC.endWithPromises(1, 11);
    }

    private static void due(String call, long got, long want) {
        DOC.due(call, got, want);
    }

    private static void dueEmpty(String title, RouteProofs x, int width, int height) {
        int[] counts = {width, height, 0, 0, 0, 0, 0, 0};
        for (int what = 0; what < counts.length; what++) {
            due(title + ": count(" + what + ")", x.count(what), counts[what]);
        }
        for (int cell = 0; cell < width * height; cell++) {
            for (int what = 0; what < 3; what++) {
                due(title + ": cell(" + cell + ", " + what + ")", x.cell(cell, what), 0);
            }
        }
        for (int lever = 0; lever < 4; lever++) {
            due(title + ": turn(" + lever + ")", x.turn(lever), 0);
        }
        for (int slot = 0; slot < 5; slot++) {
            due(title + ": route(" + slot + ", -1)", x.route(slot, -1), 0);
        }
        due(title + ": unpair()", x.unpair(), 0);
    }

    private static void newObject() {
        DOC.promise(1);
        DOC.says("Creates a grid of 6 times 6 open cells without roles, pairs and routes.");
        RouteProofs x = new RouteProofs();
        dueEmpty("new", x, 6, 6);
        due("the last cell", x.cell(35, 0), 0);
        due("one more", x.cell(36, 0), NO_SUCH);
        due("pad", x.count(8), 0);
        RouteProofs busy = Edges.busy();
        due("a busy one", busy.count(7), 23);
        dueEmpty("new beside a busy one", new RouteProofs(), 6, 6);
    }

    private static void setUp() {
        DOC.promise(2);
        DOC.says("`width`: 2 to 8; height likewise");
        for (int width = 2; width <= 8; width++) {
            for (int height = 2; height <= 8; height++) {
                RouteProofs x = new RouteProofs();
                due("setUp(" + width + ", " + height + ")", x.setUp(width, height), width * height);
                due("its width", x.count(0), width);
                due("its height", x.count(1), height);
                due("its last cell", x.cell(width * height - 1, 0), 0);
                due("one more", x.cell(width * height, 0), NO_SUCH);
            }
        }
        DOC.says("All cells are open then and have no roles; switches and slots are empty, and there are no pairs.");
        int[][] sizes = {{6, 5}, {5, 6}, {2, 2}, {8, 8}, {8, 2}, {2, 8}};
        for (int[] size : sizes) {
            RouteProofs x = Edges.busy();
            x.setUp(size[0], size[1]);
            dueEmpty("setUp(" + size[0] + ", " + size[1] + ")", x, size[0], size[1]);
        }
        RouteProofs twice = Edges.busy();
        twice.setUp(2, 2);
        twice.setUp(6, 5);
        dueEmpty("smaller and back", twice, 6, 5);
    }

    private static void setUpRefused() {
        DOC.says("BAD_VALUE if an argument is out of range");
        int[] wrong = {1, 9, 0, -1, 10, -6, 258, 65538, Edges.LOW, Edges.LOW + 2, Edges.HIGH};
        RouteProofs x = new RouteProofs();
        for (int side : wrong) {
            due("setUp(" + side + ", 2)", x.setUp(side, 2), BAD_VALUE);
            due("setUp(8, " + side + ")", x.setUp(8, side), BAD_VALUE);
            due("setUp(" + side + ", " + side + ")", x.setUp(side, side), BAD_VALUE);
        }
        due("as before: width", x.count(0), 6);
        due("as before: height", x.count(1), 6);
    }

    private static void wall() {
        DOC.promise(3);
        DOC.says("Makes a cell a wall, or open.");
        RouteProofs x = new RouteProofs();
        due("an open one open", x.wall(7, 0), 0);
        due("still open", x.cell(7, 0), 0);
        due("a wall", x.wall(7, 1), 1);
        due("a wall a wall", x.wall(7, 1), 1);
        due("still a wall", x.cell(7, 0), 1);
        due("its neighbour", x.cell(8, 0), 0);
        due("open again", x.wall(7, 0), 0);
        DOC.says("`on`: 1 for a wall, 0 for open");
        x.wall(0, 1);
        due("on", x.cell(0, 0), 1);
        x.wall(0, 0);
        due("off", x.cell(0, 0), 0);
        DOC.says("Returns the number of walls then");
        x.setUp(8, 8);
        for (int cell = 0; cell < 64; cell++) {
            due("wall " + cell, x.wall(cell, 1), cell + 1);
        }
        due("the first again", x.wall(0, 1), 64);
        for (int cell = 63; cell >= 0; cell--) {
            due("open " + cell, x.wall(cell, 0), cell);
        }
    }

    private static void wallRefused() {
        DOC.says("NO_SUCH if there is no such cell");
        int[][] sizes = {{2, 2}, {6, 6}, {8, 2}, {8, 8}};
        for (int[] size : sizes) {
            RouteProofs x = Edges.sized(size[0], size[1]);
            int cells = size[0] * size[1];
            for (int cell : Edges.outside(cells)) {
                due("wall(" + cell + ", 1) of " + cells, x.wall(cell, 1), NO_SUCH);
                due("wall(" + cell + ", 0) of " + cells, x.wall(cell, 0), NO_SUCH);
            }
            due("no walls", x.count(2), 0);
            due("the last cell", x.wall(cells - 1, 1), 1);
        }
        DOC.says("BAD_VALUE if on is neither 0 nor 1");
        RouteProofs x = new RouteProofs();
        x.wall(3, 1);
        for (int on : Edges.outside(2)) {
            due("wall(3, " + on + ")", x.wall(3, on), BAD_VALUE);
            due("wall(4, " + on + ")", x.wall(4, on), BAD_VALUE);
        }
        due("one wall", x.count(2), 1);
        due("that one", x.cell(3, 0), 1);
    }

    private static void role() {
        DOC.promise(4);
        DOC.says("Returns the previous role");
        RouteProofs x = new RouteProofs();
        for (int before = 0; before < 4; before++) {
            for (int role = 0; role < 4; role++) {
                x.role(35, before);
                due("from " + before + " to " + role, x.role(35, role), before);
                due("then", x.cell(35, 1), role);
            }
        }
        DOC.says("NO_SUCH if there is no such cell");
        int[][] sizes = {{2, 2}, {6, 6}, {8, 8}};
        for (int[] size : sizes) {
            RouteProofs y = Edges.sized(size[0], size[1]);
            int cells = size[0] * size[1];
            for (int cell : Edges.outside(cells)) {
                due("role(" + cell + ", 1) of " + cells, y.role(cell, 1), NO_SUCH);
            }
            due("no sources", y.count(3), 0);
            due("the last cell", y.role(cells - 1, 1), 0);
        }
        DOC.says("BAD_VALUE if there is no such role");
        x.role(35, 3);
        for (int role : Edges.outside(4)) {
            due("role(35, " + role + ")", x.role(35, role), BAD_VALUE);
        }
        due("as before", x.cell(35, 1), 3);
    }

    private static void wire() {
        DOC.promise(5);
        DOC.says("`lever`: number of the switch");
        RouteProofs x = Edges.sized(8, 8);
        for (int lever = 0; lever < 4; lever++) {
            due("wire(" + lever + ", 63)", x.wire(lever, 63), 1);
            due("cell(63, 2)", x.cell(63, 2), (2 << lever) - 1);
        }
        DOC.says("Puts a cell into the set of a switch, or takes it out if it is there.");
        due("out", x.wire(1, 63), 0);
        due("of this set alone", x.cell(63, 2), 13);
        due("in again", x.wire(1, 63), 1);
        x.wall(62, 1);
        due("a wall", x.wire(1, 62), 2);
        due("out of the set", x.wire(1, 62), 1);
        due("the wall stays", x.cell(62, 0), 1);
        DOC.says("Returns the number of cells in the set then");
        x.setUp(8, 8);
        for (int cell = 0; cell < 64; cell++) {
            due("in: " + cell, x.wire(2, cell), cell + 1);
        }
        for (int cell = 0; cell < 64; cell++) {
            due("out: " + cell, x.wire(2, cell), 63 - cell);
        }
        DOC.says("NO_SUCH if there is no such switch or cell");
        int[][] sizes = {{2, 2}, {6, 6}, {8, 8}};
        for (int[] size : sizes) {
            RouteProofs y = Edges.sized(size[0], size[1]);
            int cells = size[0] * size[1];
            for (int cell : Edges.outside(cells)) {
                due("wire(0, " + cell + ")", y.wire(0, cell), NO_SUCH);
            }
            for (int lever : Edges.outside(4)) {
                due("wire(" + lever + ", 0)", y.wire(lever, 0), NO_SUCH);
                due("wire(" + lever + ", " + cells + ")", y.wire(lever, cells), NO_SUCH);
            }
            due("cell(0, 2)", y.cell(0, 2), 0);
            due("the set of 0 is empty", y.wire(0, cells - 1), 1);
        }
    }

    private static void turn() {
        DOC.promise(6);
        DOC.says("`lever`: number of the switch");
        RouteProofs x = Edges.sized(8, 8);
        for (int lever = 0; lever < 4; lever++) {
            x.wire(lever, lever);
            due("turn(" + lever + ")", x.turn(lever), lever + 1);
            due("its cell", x.cell(lever, 0), 1);
        }
        DOC.says("Returns the number of walls then");
        RouteProofs empty = Edges.busy();
        empty.setUp(2, 2);
        empty.wall(1, 1);
        due("an empty set", empty.turn(3), 1);
        RouteProofs all = Edges.sized(8, 8);
        for (int cell = 0; cell < 64; cell++) {
            all.wire(3, cell);
        }
        due("all cells", all.turn(3), 64);
        due("all cells back", all.turn(3), 0);
        all.wall(63, 1);
        due("all but one", all.turn(3), 63);
        DOC.says("NO_SUCH if there is no such switch");
        for (int lever : Edges.outside(4)) {
            due("turn(" + lever + ")", all.turn(lever), NO_SUCH);
        }
        due("as before", all.count(2), 63);
    }

    private static void cellByItself() {
        DOC.promise(7);
        DOC.says("0 whether it is a wall (1 or 0)");
        RouteProofs x = Texts.grid(".#sStTmM/.......#");
        int[] walls = {0, 1, 0, 1, 0, 1, 0, 1, 0, 0, 0, 0, 0, 0, 0, 1};
        for (int cell = 0; cell < 16; cell++) {
            due("cell(" + cell + ", 0)", x.cell(cell, 0), walls[cell]);
        }
        DOC.says("1 its role");
        int[] roles = {0, 0, 1, 1, 2, 2, 3, 3, 0, 0, 0, 0, 0, 0, 0, 0};
        for (int cell = 0; cell < 16; cell++) {
            due("cell(" + cell + ", 1)", x.cell(cell, 1), roles[cell]);
        }
        DOC.says("2 the set of the switches in whose sets it is, as a bit mask");
        for (int mask = 0; mask < 16; mask++) {
            for (int lever = 0; lever < 4; lever++) {
                if ((mask >> lever & 1) == 1) {
                    x.wire(lever, mask);
                }
            }
        }
        for (int cell = 0; cell < 16; cell++) {
            due("cell(" + cell + ", 2)", x.cell(cell, 2), cell);
        }
    }

    private static void cellAmongOthers() {
        DOC.says("3 the number of adjacent open cells");
        for (int width = 2; width <= 8; width++) {
            for (int height = 2; height <= 8; height++) {
                RouteProofs x = Edges.sized(width, height);
                for (int cell = 0; cell < width * height; cell++) {
                    int column = cell % width;
                    int row = cell / width;
                    int want = (column > 0 ? 1 : 0) + (column < width - 1 ? 1 : 0) + (row > 0 ? 1 : 0) + (row < height - 1 ? 1 : 0);
                    due("cell(" + cell + ", 3) of " + width + " times " + height, x.cell(cell, 3), want);
                }
            }
        }
        RouteProofs walls = Texts.grid("###/#.#/###");
        due("around it walls alone", walls.cell(4, 3), 0);
        due("a wall beside it", walls.cell(1, 3), 1);
        due("a wall in the corner", walls.cell(0, 3), 0);
        DOC.says("4 the number of cells that lie behind it (0 for a wall)");
        for (int width = 2; width <= 8; width++) {
            for (int height = 2; height <= 8; height++) {
                RouteProofs x = Edges.sized(width, height);
                for (int cell = 0; cell < width * height; cell++) {
                    int want = (width - cell % width) * (height - cell / width);
                    due("cell(" + cell + ", 4) of " + width + " times " + height, x.cell(cell, 4), want);
                    x.wall(cell, 1);
                    due("a wall: cell(" + cell + ", 4)", x.cell(cell, 4), 0);
                    x.wall(cell, 0);
                }
            }
        }
        due("nothing but itself", walls.cell(4, 4), 1);
        due("one in a staircase", Texts.grid("..#/#../##.").cell(0, 4), 5);
        due("none beyond the end of a row", Texts.grid(".../###/...").cell(1, 4), 2);
    }

    private static void dueFlags(String text, int what, int... cells) {
        RouteProofs x = Texts.grid(text);
        for (int cell = 0; cell < x.count(0) * x.count(1); cell++) {
            int want = 0;
            for (int there : cells) {
                want |= there == cell ? 1 : 0;
            }
            due("cell(" + cell + ", " + what + ") of " + text, x.cell(cell, what), want);
        }
    }

    private static void cellInPasses() {
        DOC.says("5 whether it is in the near pass (1 or 0)");
        dueFlags("../..", 5);
        dueFlags("ss/ss", 5);
        dueFlags("s#t/s#t", 5);
        dueFlags("S.T/s..", 5);
        dueFlags("st/ts", 5, 0, 3);
        dueFlags("s.#.t/s...t/s.#.t", 5, 6);
        dueFlags("ss...t/###.##", 5, 1);
        dueFlags("s.t/###/s.t", 5, 0, 6);
        DOC.says("6 whether it is in the far pass");
        dueFlags("../..", 6);
        dueFlags("tt/tt", 6);
        dueFlags("s#t/s#t", 6);
        dueFlags("S.T/t..", 6);
        dueFlags("st/ts", 6, 1, 2);
        dueFlags("s.#.t/s...t/s.#.t", 6, 8);
        dueFlags("s...tt/###.##", 6, 4);
        dueFlags("s.t/###/s.t", 6, 2, 8);
    }

    private static void cellInGroups() {
        DOC.says("7 whether it is in the first group");
        dueFlags("../..", 7);
        dueFlags("MM/MM", 7);
        dueFlags("M./.m", 7, 3);
        dueFlags("mm/mm", 7, 1, 2);
        dueFlags("mmm/###", 7, 0);
        dueFlags("m#m/#m#/m#m", 7, 0, 2, 4, 6, 8);
        DOC.says("8 whether it is in some greatest group");
        dueFlags("../..", 8);
        dueFlags("MM/MM", 8);
        dueFlags("M./.m", 8, 3);
        dueFlags("mm/mm", 8, 1, 2);
        dueFlags("m.m/###", 8, 0, 2);
        dueFlags("m#m/#m#/m#m", 8, 0, 2, 4, 6, 8);
        dueFlags("mmm/mmm", 8, 1, 2, 3, 4);
    }

    private static void cellRefused() {
        DOC.says("NO_SUCH if there is no such cell");
        int[][] sizes = {{2, 2}, {6, 6}, {8, 8}};
        for (int[] size : sizes) {
            RouteProofs x = Edges.sized(size[0], size[1]);
            for (int cell : Edges.outside(size[0] * size[1])) {
                for (int what = 0; what <= 8; what++) {
                    due("cell(" + cell + ", " + what + ")", x.cell(cell, what), NO_SUCH);
                }
            }
        }
        DOC.says("BAD_VALUE if what is out of range");
        RouteProofs x = Edges.busy();
        for (int what : Edges.outside(9)) {
            due("cell(0, " + what + ")", x.cell(0, what), BAD_VALUE);
            due("cell(29, " + what + ")", x.cell(29, what), BAD_VALUE);
        }
    }

    private static void put() {
        DOC.promise(8);
        DOC.says("its lowest 8 bits are the last character, the next 8 bits the one before, and so on");
        RouteProofs x = new RouteProofs();
        x.put(0x732E2F234DL);
        due("\"s./#M\"", x.load(), 4);
        int[] walls = {0, 0, 1, 1};
        int[] roles = {1, 0, 0, 3};
        for (int cell = 0; cell < 4; cell++) {
            due("cell(" + cell + ", 0)", x.cell(cell, 0), walls[cell]);
            due("cell(" + cell + ", 1)", x.cell(cell, 1), roles[cell]);
        }
        DOC.says("Appends characters to the pad.");
        x.put('.');
        x.put(Texts.packed("#/"));
        due("behind those before", x.put(Texts.packed("t.")), 5);
        due("a grid of three parts", x.load(), 4);
        due("of the second", x.cell(1, 0), 1);
        due("of the third", x.cell(2, 1), 2);
        DOC.says("`characters`: 1 to 8 characters");
        for (int number = 1; number <= 8; number++) {
            due(number + " at once", new RouteProofs().put(Texts.packed("~".repeat(number))), number);
            due(number + " at once", new RouteProofs().put(Texts.packed("!".repeat(number))), number);
        }
        DOC.says("Returns the length of the pad then");
        RouteProofs y = new RouteProofs();
        for (int length = 1; length <= MOST_CHARACTERS; length++) {
            due("one by one", y.put('m'), length);
        }
    }

    private static void putRefused() {
        DOC.says("BAD_VALUE if there is no character, a code is not 33 to 126, or a bit above 8 bits that are 0 is not 0");
        due("no character", new RouteProofs().put(0), BAD_VALUE);
        for (int code = 1; code < 256; code++) {
            for (int number = 1; number <= 8; number++) {
                for (int at = 0; at < number; at++) {
                    long others = Texts.packed(".".repeat(number));
                    long characters = others & ~(255L << 8 * at) | (long) code << 8 * at;
                    boolean fine = code >= 33 && code <= 126;
                    due("put " + characters, new RouteProofs().put(characters), fine ? number : BAD_VALUE);
                }
            }
        }
        DOC.says("8 bits that are 0 mean that there are no more characters, and everything above them has to be 0, too");
        for (int number = 0; number < 7; number++) {
            long characters = number == 0 ? 0 : Texts.packed("/".repeat(number));
            due("put " + characters, new RouteProofs().put(characters), number == 0 ? BAD_VALUE : number);
            for (int bit = 8 * number + 8; bit < 64; bit++) {
                due("a bit above: " + bit, new RouteProofs().put(characters | 1L << bit), BAD_VALUE);
            }
            due("a character above", new RouteProofs().put(characters | (long) '.' << 8 * number + 8), BAD_VALUE);
        }
        due("only the highest bit", new RouteProofs().put(Long.MIN_VALUE), BAD_VALUE);
        due("all bits", new RouteProofs().put(-1), BAD_VALUE);
        due("the greatest number", new RouteProofs().put(Long.MAX_VALUE), BAD_VALUE);
    }

    private static void putTooMany() {
        DOC.says("TOO_MANY if the pad would be longer than 80");
        for (int before = 70; before <= MOST_CHARACTERS; before++) {
            for (int number = 1; number <= 8; number++) {
                RouteProofs x = new RouteProofs();
                Texts.putAll(x, "s".repeat(before));
                boolean fits = before + number <= MOST_CHARACTERS;
                int want = fits ? before + number : TOO_MANY;
                due(number + " behind " + before, x.put(Texts.packed("t".repeat(number))), want);
                due("the length then", x.count(8), fits ? want : before);
            }
        }
        RouteProofs x = new RouteProofs();
        Texts.putAll(x, "s".repeat(MOST_CHARACTERS));
        x.wipe();
        due("room again", x.put(Texts.packed("........")), 8);
    }

    private static void wipe() {
        DOC.promise(9);
        DOC.says("Empties the pad, and returns the length that it had.");
        for (int length = 0; length <= MOST_CHARACTERS; length++) {
            RouteProofs x = new RouteProofs();
            Texts.putAll(x, "x".repeat(length));
            due("wipe() of " + length, x.wipe(), length);
            due("then", x.count(8), 0);
            due("wipe() of none", x.wipe(), 0);
            due("the fault of an empty pad", x.fault(), 0);
        }
        RouteProofs x = Edges.busy();
        Texts.putAll(x, "../");
        x.wipe();
        Texts.putAll(x, "##/##");
        due("nothing of the old text", x.fault(), NONE);
        due("the grid stays", x.count(0), 6);
        due("the slots stay", x.count(7), 23);
    }

    private static void fault() {
        DOC.promise(10);
        DOC.says("Returns the fault of the pad, NONE if there is none.");
        due("an empty pad", new RouteProofs().fault(), 0);
        RouteProofs x = new RouteProofs();
        int[] faults = {1, 2, 3, 4, NONE, 6, 7, NONE, 8};
        for (int index = 0; index < faults.length; index++) {
            x.put("../../...".charAt(index));
            due("after " + (index + 1), x.fault(), faults[index]);
            due("asked again", x.fault(), faults[index]);
            due("the pad stays", x.count(8), index + 1);
        }
        RouteProofs full = new RouteProofs();
        Texts.putAll(full, "z".repeat(MOST_CHARACTERS));
        due("a full pad", full.fault(), 0);
        RouteProofs rows = new RouteProofs();
        Texts.putAll(rows, Edges.text(8, 8, "m") + "/mmmmmmmm");
        due("a full pad of nine rows", rows.fault(), 71);
    }

    private static void load() {
        DOC.promise(11);
        DOC.says("Returns the number of cells");
        for (int width = 2; width <= 8; width++) {
            for (int height = 2; height <= 8; height++) {
                RouteProofs x = new RouteProofs();
                Texts.putAll(x, Edges.text(width, height, "M"));
                due("load() of " + width + " times " + height, x.load(), width * height);
                due("its walls", x.count(2), width * height);
                due("its width", x.count(0), width);
                due("its height", x.count(1), height);
                due("the role of the last", x.cell(width * height - 1, 1), 3);
                due("one more", x.cell(width * height, 1), NO_SUCH);
            }
        }
        DOC.says("Makes the pad the grid, as setUp() does, and empties the pad.");
        String[] texts = {"../..", Edges.text(8, 8, "."), Edges.text(6, 5, ".")};
        int[][] sizes = {{2, 2}, {8, 8}, {6, 5}};
        for (int index = 0; index < texts.length; index++) {
            RouteProofs x = Edges.busy();
            Texts.putAll(x, texts[index]);
            x.load();
            due("the pad", x.count(8), 0);
            due("the fault of an empty pad", x.fault(), 0);
            dueEmpty("load() of " + texts[index], x, sizes[index][0], sizes[index][1]);
            due("once more", x.load(), BAD_TEXT);
        }
    }

    private static void loadRefused() {
        DOC.says("BAD_TEXT if the pad has a fault");
        String[] faulty = {"", ".", "..", "../", "../.", "./.", "/", "../...", "..././", "../../", ".x/..", "../..!", ".........",
            "......../.........", Edges.text(2, 9, "."), Edges.text(8, 8, ".") + "/", Edges.text(8, 8, ".") + "."};
        for (String text : faulty) {
            RouteProofs x = Edges.busy();
            Texts.putAll(x, text);
            due("load() of " + text, x.load(), BAD_TEXT);
            due("the pad stays", x.count(8), text.length());
            due("the width stays", x.count(0), 6);
            due("the height stays", x.count(1), 5);
            due("the slots stay", x.count(7), 23);
            due("the pairs stay", x.count(6), 3);
        }
    }
}
