import java.util.ArrayList;
import java.util.List;
import java.util.Random;
import java.util.regex.Matcher;
import java.util.regex.Pattern;

/** The sentences of the description about the slots and the pad, one by one, and the constants. */
public final class DescriptionTextsTest {
    private static final int NO_SUCH = -1, BAD_VALUE = -2, BAD_TEXT = -3, TOO_MANY = -4, NOT_POSSIBLE = -5, NONE = -6;
    private static final int MOST_CHARACTERS = 80;
    private static final String CELLS = ".#stmSTM";
    private static final Sentences DOC = new Sentences("DescriptionTextsTest");

    private DescriptionTextsTest() {
    }

    public static void main(String[] args) {
        DOC.section("Description");
        slots();
        routesInSlots();
        changesOfTheGrid();
        validRoutes();
        routesThatMeet();
        meetings();
        tails();
        cellsTwice();
        pad();
        grammar();
        signs();
        sizesOfTexts();
        firstFaults();
        faultsByTrying();
        textsThatEnd();
        constants();
        DOC.endWithDescription("There are 5 slots", "The constructor and the methods follow");
    }

    private static void due(String call, long got, long want) {
        DOC.due(call, got, want);
    }

    // ---- slots

    private static List<Integer> cellsOf(RouteProofs x, int slot) {
        List<Integer> cells = new ArrayList<>();
        for (int index = 0; index < x.route(slot, -1); index++) {
            cells.add(x.route(slot, index));
        }
        return cells;
    }

    private static void dueCells(String title, RouteProofs x, int slot, List<Integer> want) {
        due(title + ": " + cellsOf(x, slot) + " for " + want, cellsOf(x, slot).equals(want) ? 1 : 0, 1);
    }

    /** A way of random steps; it may end early where no step is left. */
    private static void wander(RouteProofs x, int slot, int cell, int steps, Random random) {
        int at = cell;
        x.step(slot, at);
        for (int step = 0; step < steps; step++) {
            int[] sides = {1, -1, x.count(0), -x.count(0)};
            int next = at + sides[random.nextInt(4)];
            at = x.step(slot, next) > 0 ? next : at;
        }
    }

    private static void slots() {
        DOC.says("There are 5 slots for routes, empty at first.");
        RouteProofs x = new RouteProofs();
        due("none is in use", x.count(7), 0);
        for (int slot = -2; slot <= 7; slot++) {
            boolean there = slot >= 0 && slot < 5;
            due("cells in slot " + slot, x.route(slot, -1), there ? 0 : NO_SUCH);
            due("the first one", x.route(slot, 0), there ? NONE : NO_SUCH);
            due("nothing to drop", x.back(slot), there ? NOT_POSSIBLE : NO_SUCH);
            due("it is valid", x.about(slot, 0), there ? 1 : NO_SUCH);
        }
        for (int slot = 0; slot < 5; slot++) {
            due("a cell for slot " + slot, x.step(slot, slot * 7), 1);
        }
        for (int slot = 0; slot < 5; slot++) {
            due("in slot " + slot, x.route(slot, 0), slot * 7);
        }
    }

    private static void routesInSlots() {
        DOC.says("A route in a slot is a sequence of different cells, each adjacent to the one before, that were open when they were"
            + " appended.");
        RouteProofs x = Texts.grid("..#/.../...");
        due("open", x.step(1, 0), 1);
        due("not different", x.step(1, 0), NOT_POSSIBLE);
        due("not adjacent", x.step(1, 4), NOT_POSSIBLE);
        due("adjacent", x.step(1, 1), 2);
        due("not different, but adjacent", x.step(1, 0), NOT_POSSIBLE);
        due("not open", x.step(1, 2), NOT_POSSIBLE);
        x.wall(2, 0);
        due("open now", x.step(1, 2), 3);
        x.wall(2, 1);
        due("on from a cell that is a wall now", x.step(1, 5), 4);
        due("a wall in the route", x.step(1, 2), NOT_POSSIBLE);
        dueCells("the route", x, 1, List.of(0, 1, 2, 5));
        due("the same cells for another slot, from a wall", x.step(0, 2), NOT_POSSIBLE);
        due("the same cells for another slot", x.step(0, 5), 1);
    }

    private static void changesOfTheGrid() {
        DOC.says("Changes of the grid leave routes as they are");
        RouteProofs x = new RouteProofs();
        Edges.go(x, 2, 0, 1, 7, 8);
        List<Integer> route = List.of(0, 1, 7, 8);
        for (int cell = 0; cell < 36; cell++) {
            x.wire(3, cell);
            x.role(cell, 1 + cell % 3);
            x.wall(cell, 1);
            dueCells("a wall at " + cell, x, 2, route);
        }
        x.turn(3);
        dueCells("all turned", x, 2, route);
        x.turn(3);
        dueCells("all turned back", x, 2, route);
        due("its slot", x.count(7), 4);
        due("a wall is dropped as another cell", x.back(2), 3);
        due("and the next one", x.back(2), 2);
    }

    private static void validRoutes() {
        DOC.says("a route is valid if all its cells are open now");
        RouteProofs x = Texts.grid("s.t/...");
        Edges.go(x, 0, 0, 1, 2);
        Edges.go(x, 4, 3, 4);
        for (int cell = 0; cell < 6; cell++) {
            x.wall(cell, 1);
            due("slot 0 with a wall at " + cell, x.about(0, 0), cell < 3 ? 0 : 1);
            due("slot 4 with a wall at " + cell, x.about(4, 0), cell == 3 || cell == 4 ? 0 : 1);
            due("an empty one with a wall at " + cell, x.about(1, 0), 1);
            due("as a proof with a wall at " + cell, x.check(1, 1), cell < 3 ? 0 : 1);
            x.wall(cell, 0);
        }
        x.wire(0, 2);
        x.turn(0);
        due("turned to a wall", x.about(0, 0), 0);
        x.back(0);
        due("without this cell", x.about(0, 0), 1);
        x.turn(0);
        due("turned back", x.step(0, 2), 3);
        due("valid", x.about(0, 0), 1);
    }

    private static void routesThatMeet() {
        DOC.says("Two routes meet if they have a cell in common.");
        RouteProofs x = new RouteProofs();
        due("two empty ones", x.meeting(0, 1), NONE);
        x.step(0, 14);
        due("one empty", x.meeting(0, 1), NONE);
        for (int cell = 0; cell < 36; cell++) {
            x.step(1, cell);
            due("14 and " + cell, x.meeting(0, 1), cell == 14 ? 14 : NONE);
            due("14 and " + cell + " as masks", x.about(0, 4) + x.about(1, 4), cell == 14 ? 3 : 0);
            x.back(1);
        }
        Edges.go(x, 1, 12, 13, 14);
        x.wall(14, 1);
        due("in a wall", x.meeting(0, 1), 14);
        due("and not in a proof", x.check(3, 1), 0);
    }

    private static void meetings() {
        DOC.says("Their meeting is the first cell of the route in the slot with the lower number that is also a cell of the other one.");
        Random random = new Random(3);
        for (int round = 0; round < 300; round++) {
            RouteProofs x = Edges.sized(3 + round % 3, 4);
            int lower = random.nextInt(4);
            int upper = lower + 1 + random.nextInt(4 - lower);
            wander(x, lower, random.nextInt(12), 12, random);
            wander(x, upper, random.nextInt(12), 12, random);
            int want = NONE;
            for (int cell : cellsOf(x, lower)) {
                want = want == NONE && cellsOf(x, upper).contains(cell) ? cell : want;
            }
            due("round " + round, x.meeting(lower, upper), want);
            due("round " + round + ", the higher slot first", x.meeting(upper, lower), want);
        }
    }

    private static List<Integer> joined(List<Integer> head, List<Integer> tail, int meeting) {
        List<Integer> cells = new ArrayList<>(head.subList(0, head.indexOf(meeting) + 1));
        cells.addAll(tail.subList(tail.indexOf(meeting) + 1, tail.size()));
        return cells;
    }

    private static boolean isOnce(List<Integer> cells) {
        return cells.stream().distinct().count() == cells.size();
    }

    private static void tails() {
        DOC.says("Exchanging tails of two routes that meet: the parts behind the meeting are exchanged.");
        int exchanged = 0;
        int refused = 0;
        Random random = new Random(5);
        for (int round = 0; round < 600; round++) {
            RouteProofs x = Edges.sized(3 + round % 4, 4);
            int one = random.nextInt(5);
            int two = (one + 1 + random.nextInt(4)) % 5;
            wander(x, one, random.nextInt(12), 10, random);
            wander(x, two, random.nextInt(12), 10, random);
            if (round % 5 == 0) {
                x.wall(x.route(one, 0), 1);
            }
            List<Integer> before = cellsOf(x, one);
            List<Integer> other = cellsOf(x, two);
            int meeting = x.meeting(one, two);
            boolean possible = meeting >= 0 && isOnce(joined(before, other, meeting)) && isOnce(joined(other, before, meeting));
            due("round " + round + ", " + before + " and " + other, x.exchange(one, two), possible ? meeting : NOT_POSSIBLE);
            dueCells("round " + round, x, one, possible ? joined(before, other, meeting) : before);
            dueCells("round " + round, x, two, possible ? joined(other, before, meeting) : other);
            exchanged += possible ? 1 : 0;
            refused += meeting >= 0 && !possible ? 1 : 0;
            if (possible) {
                due("round " + round + ", back again", x.exchange(two, one) >= 0 ? 1 : 0, 1);
            }
        }
        due("some were exchanged", exchanged > 100 ? 1 : 0, 1);
        due("some would have had a cell twice", refused > 20 ? 1 : 0, 1);
    }

    private static void cellsTwice() {
        DOC.says("If one of the routes had a cell twice then, this is not possible.");
        RouteProofs x = new RouteProofs();
        Edges.go(x, 0, 0, 1, 2, 8);
        Edges.go(x, 1, 8, 7, 1, 0);
        due("the first one would", x.exchange(0, 1), NOT_POSSIBLE);
        dueCells("as before", x, 0, List.of(0, 1, 2, 8));
        dueCells("as before", x, 1, List.of(8, 7, 1, 0));
        RouteProofs upper = new RouteProofs();
        Edges.go(upper, 0, 7, 1, 2);
        Edges.go(upper, 1, 2, 3, 4, 10, 9, 8, 7, 13);
        due("the second one would", upper.exchange(1, 0), NOT_POSSIBLE);
        dueCells("as before", upper, 0, List.of(7, 1, 2));
        dueCells("as before", upper, 1, List.of(2, 3, 4, 10, 9, 8, 7, 13));
    }

    // ---- the pad

    private static int faultOf(String text) {
        RouteProofs x = new RouteProofs();
        Texts.putAll(x, text);
        return x.fault();
    }

    private static void pad() {
        DOC.says("The pad is a text of at most 80 characters with codes from 33 to 126, from which a grid is read");
        RouteProofs x = new RouteProofs();
        for (int code = -1; code < 400; code++) {
            x.wipe();
            due("put(" + code + ")", x.put(code), code >= 33 && code <= 126 ? 1 : BAD_VALUE);
        }
        x.wipe();
        for (int length = 1; length <= 90; length++) {
            due("character " + length, x.put('~'), length <= MOST_CHARACTERS ? length : TOO_MANY);
        }
        due("its length", x.wipe(), MOST_CHARACTERS);
    }

    private static void grammar() {
        DOC.says("grid = row { \"/\" row } row = cell { cell } cell = \".\" | \"#\" | \"s\" | \"t\" | \"m\" | \"S\" | \"T\" | \"M\"");
        for (char sign = 33; sign <= 126; sign++) {
            boolean isCell = CELLS.indexOf(sign) >= 0;
            due("as the first cell: " + sign, faultOf(sign + "./.."), isCell ? NONE : 0);
            due("as the second cell: " + sign, faultOf("." + sign + "/.."), isCell ? NONE : 1);
            due("as the first cell of the last row: " + sign, faultOf("../" + sign + "."), isCell ? NONE : 3);
            due("as the last cell: " + sign, faultOf("../." + sign), isCell ? NONE : 4);
            boolean fits = isCell || sign == '/';
            due("behind two cells: " + sign, faultOf(".." + sign), fits ? 3 : 2);
            due("behind two rows: " + sign, faultOf("../.." + sign), sign == '/' ? 6 : 5);
        }
    }

    private static void signs() {
        DOC.says("\".\" is open, \"#\" a wall, each without a role; the small letters are open cells with the role SOURCE, TARGET or MARKED,"
            + " the great ones walls with it.");
        int[] walls = {0, 1, 0, 0, 0, 1, 1, 1};
        int[] roles = {0, 0, 1, 2, 3, 1, 2, 3};
        for (int index = 0; index < CELLS.length(); index++) {
            for (int at = 0; at < 4; at++) {
                StringBuilder row = new StringBuilder(at % 2 == 0 ? "...." : "#m#m");
                row.setCharAt(at, CELLS.charAt(index));
                RouteProofs x = Texts.grid("..../" + row);
                due("cell(" + (4 + at) + ", 0) of " + row, x.cell(4 + at, 0), walls[index]);
                due("cell(" + (4 + at) + ", 1) of " + row, x.cell(4 + at, 1), roles[index]);
            }
        }
    }

    private static String rows(int width, int height) {
        return Edges.text(width, height, ".");
    }

    private static void sizesOfTexts() {
        DOC.says("All rows have the same length, from 2 to 8, and there are 2 to 8 rows.");
        for (int width = 1; width <= 10; width++) {
            for (int height = 1; height <= 7; height++) {
                String text = rows(width, height);
                RouteProofs x = new RouteProofs();
                Texts.putAll(x, text);
                boolean fits = width >= 2 && width <= 8 && height >= 2;
                due(width + " times " + height, x.load(), fits ? width * height : BAD_TEXT);
            }
        }
        for (int width = 2; width <= 8; width++) {
            due("eight rows of " + width, faultOf(rows(width, 8)), NONE);
            due("nine rows of " + width, faultOf(rows(width, 9)), 8 * width + 7);
            due("one row of " + width, faultOf(rows(width, 1)), width);
            for (int row = 2; row <= 7; row++) {
                int start = (row - 1) * (width + 1);
                String before = rows(width, row - 1) + "/";
                String shorter = before + ".".repeat(width - 1) + "/" + rows(width, 1);
                due("row " + row + " is shorter than " + width, faultOf(shorter), start + width - 1);
                String longer = before + ".".repeat(width + 1);
                due("row " + row + " is longer than " + width, faultOf(longer), start + width);
            }
        }
    }

    private static void firstFaults() {
        DOC.says("The fault is the index of the first character that cannot stand at its place when the text is read from left to right (for"
            + " instance a ninth cell of a row, a cell more than the first row has, a \"/\" too early, or behind the eighth row)");
        due("a ninth cell of the first row", faultOf("........."), 8);
        due("a ninth cell of a later row", faultOf("......../........./"), 17);
        due("a cell more than the first row has", faultOf("../.../"), 5);
        due("a cell more in the last row", faultOf(rows(7, 8) + "."), 63);
        due("\"/\" at first", faultOf("/../.."), 0);
        due("\"/\" behind one cell", faultOf("./../.."), 1);
        due("\"/\" behind \"/\"", faultOf("..//.."), 3);
        due("\"/\" before the row is full", faultOf("...../..../....."), 10);
        due("\"/\" behind the eighth row", faultOf(rows(8, 8) + "/"), 71);
        due("\"/\" behind the eighth row, and more", faultOf(rows(2, 9)), 23);
        due("\"/\" within the eighth row", faultOf(rows(3, 7) + "/../"), 30);
        due("the first of two", faultOf("x.y/.."), 0);
        due("the first of two, later", faultOf("../.y.x"), 4);
        due("a wrong sign behind a cell too many", faultOf("../..../x"), 5);
        due("a great X", faultOf("..X"), 2);
    }

    /** A text can go on to a grid if a pattern for grids of one width is not at odds with it. */
    private static boolean canGoOn(Pattern[] widths, String text) {
        for (Pattern width : widths) {
            Matcher matcher = width.matcher(text);
            if (matcher.matches() || matcher.hitEnd()) {
                return true;
            }
        }
        return false;
    }

    private static int faultByTrying(Pattern[] widths, String text) {
        for (int index = 0; index < text.length(); index++) {
            if (!canGoOn(widths, text.substring(0, index + 1))) {
                return index;
            }
        }
        for (Pattern width : widths) {
            if (width.matcher(text).matches()) {
                return NONE;
            }
        }
        return text.length();
    }

    private static void faultsByTrying() {
        Pattern[] widths = new Pattern[7];
        for (int width = 2; width <= 8; width++) {
            widths[width - 2] = Pattern.compile("[.#stmSTM]{" + width + "}(/[.#stmSTM]{" + width + "}){1,7}");
        }
        List<String> texts = new ArrayList<>(List.of(""));
        for (int index = 0; index < texts.size(); index++) {
            String text = texts.get(index);
            due("the fault of " + text, faultOf(text), faultByTrying(widths, text));
            for (String sign : new String[] {"m", "/", "x"}) {
                if (text.length() < 8) {
                    texts.add(text + sign);
                }
            }
        }
        Random random = new Random(11);
        for (int round = 0; round < 3000; round++) {
            StringBuilder text = new StringBuilder(Edges.text(2 + random.nextInt(7), 1 + random.nextInt(8), "s"));
            for (int slip = random.nextInt(3); slip > 0; slip--) {
                text.insert(random.nextInt(text.length() + 1), "/.x#M".charAt(random.nextInt(5)));
                if (random.nextBoolean()) {
                    text.deleteCharAt(random.nextInt(text.length()));
                }
            }
            text.setLength(Math.max(0, text.length() - random.nextInt(8) * random.nextInt(2)));
            due("the fault of " + text, faultOf(text.toString()), faultByTrying(widths, text.toString()));
        }
    }

    private static void textsThatEnd() {
        DOC.says("if there is none and the text ends too early (also if it is empty), it is the length of the text");
        due("the empty text", faultOf(""), 0);
        int[][] sizes = {{2, 2}, {8, 2}, {2, 8}, {5, 4}, {8, 8}};
        for (int[] size : sizes) {
            String text = rows(size[0], size[1]);
            for (int length = 0; length <= text.length(); length++) {
                boolean whole = length > size[0] + 1 && length % (size[0] + 1) == size[0];
                due(length + " characters of " + text, faultOf(text.substring(0, length)), whole ? NONE : length);
            }
        }
    }

    private static void constants() {
        DOC.says("- `NO_SUCH = -1, BAD_VALUE = -2, BAD_TEXT = -3, TOO_MANY = -4, NOT_POSSIBLE = -5, NONE = -6`: Error codes, and NONE: there is"
            + " none.");
        int[] codes = {RouteProofs.NO_SUCH, RouteProofs.BAD_VALUE, RouteProofs.BAD_TEXT, RouteProofs.TOO_MANY, RouteProofs.NOT_POSSIBLE,
            RouteProofs.NONE};
        for (int index = 0; index < codes.length; index++) {
            due("code number " + index, codes[index], -1 - index);
        }
        DOC.says("- `GONE = -1000000000000000000L`: Methods that return a long return GONE plus an error code.");
        due("GONE", RouteProofs.GONE, -1000000000000000000L);
        due("a method that returns a long", new RouteProofs().falling(36, 0), -1000000000000000001L);
        DOC.says("- `NOTHING = 0, SOURCE = 1, TARGET = 2, MARKED = 3`: Roles.");
        int[] roles = {RouteProofs.NOTHING, RouteProofs.SOURCE, RouteProofs.TARGET, RouteProofs.MARKED};
        for (int role = 0; role < roles.length; role++) {
            due("role number " + role, roles[role], role);
            due("of a cell", Texts.grid(".s/tm").cell(role, 1), roles[role]);
        }
    }
}
