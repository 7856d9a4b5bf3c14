/** The boundary cases that promises 25 to 34 name, sentence by sentence: routes by hand, and saving. */
public final class SlotEdgesTest {
    private static final int NO_SUCH = -1, BAD_VALUE = -2, NOT_POSSIBLE = -5, NONE = -6;
    private static final Sentences DOC = new Sentences("SlotEdgesTest");

    private SlotEdgesTest() {
    }

    public static void main(String[] args) {
        step();
        stepNotThere();
        stepNotPossible();
        back();
        backRefused();
        route();
        aboutOpenCells();
        aboutSourceToTarget();
        aboutMarked();
        aboutOthers();
        aboutRefused();
        meeting();
        meetingRefused();
        exchange();
        exchangeRefused();
        exchangeNotPossible();
        checkMarked();
        checkProof();
        checkRefused();
        countGrid();
        countOthers();
        save();
        saveRefused();
        restore();
        restoreRefused();
        DOC.endWithPromises(25, 34);
    }

    private static void due(String call, long got, long want) {
        DOC.due(call, got, want);
    }

    private static void dueRoute(String title, RouteProofs x, int slot, int... cells) {
        due(title + ": route(" + slot + ", -1)", x.route(slot, -1), cells.length);
        for (int index = 0; index < cells.length; index++) {
            due(title + ": route(" + slot + ", " + index + ")", x.route(slot, index), cells[index]);
        }
    }

    private static void step() {
        DOC.promise(25);
        DOC.says("`slot`: 0 to 4");
        RouteProofs slots = new RouteProofs();
        for (int slot = 0; slot <= 4; slot++) {
            due("step(" + slot + ", 35)", slots.step(slot, 35), 1);
            due("the slots in use", slots.count(7), (2 << slot) - 1);
        }
        DOC.says("Appends a cell to the route in a slot.");
        RouteProofs x = new RouteProofs();
        Edges.go(x, 2, 0, 1, 7);
        dueRoute("appended", x, 2, 0, 1, 7);
        due("to no other slot", x.count(7), 4);
        DOC.says("Returns the number of its cells then");
        for (int width = 2; width <= 8; width++) {
            for (int height = 2; height <= 8; height++) {
                RouteProofs all = Edges.sized(width, height);
                int[] cells = Edges.snake(width, height);
                for (int index = 0; index < cells.length; index++) {
                    due("step(4, " + cells[index] + ") in " + width + " times " + height, all.step(4, cells[index]), index + 1);
                }
            }
        }
    }

    private static void stepNotThere() {
        DOC.says("NO_SUCH if there is no such slot or cell");
        int[][] sizes = {{2, 2}, {6, 6}, {8, 8}};
        for (int[] size : sizes) {
            RouteProofs x = Edges.sized(size[0], size[1]);
            int cells = size[0] * size[1];
            x.step(1, cells - 1);
            for (int cell : Edges.outside(cells)) {
                due("step(0, " + cell + ")", x.step(0, cell), NO_SUCH);
                due("step(1, " + cell + ")", x.step(1, cell), NO_SUCH);
            }
            for (int slot : Edges.outside(5)) {
                due("step(" + slot + ", 0)", x.step(slot, 0), NO_SUCH);
                due("step(" + slot + ", " + cells + ")", x.step(slot, cells), NO_SUCH);
            }
            due("the slots in use", x.count(7), 2);
        }
    }

    private static void stepNotPossible() {
        DOC.says("NOT_POSSIBLE if the cell is a wall, is in the route, or is not adjacent to its last cell");
        RouteProofs x = new RouteProofs();
        x.wall(1, 1);
        due("a wall as the first", x.step(0, 1), NOT_POSSIBLE);
        due("the empty one stays empty", x.route(0, -1), 0);
        x.step(0, 0);
        due("a wall as the second", x.step(0, 1), NOT_POSSIBLE);
        due("the last cell itself", x.step(0, 0), NOT_POSSIBLE);
        Edges.go(x, 0, 6, 7, 8);
        due("the one before", x.step(0, 7), NOT_POSSIBLE);
        Edges.go(x, 0, 14, 13);
        due("an adjacent one in the route", x.step(0, 7), NOT_POSSIBLE);
        due("one that is not adjacent", x.step(0, 20), NOT_POSSIBLE);
        due("two to the right", x.step(0, 15), NOT_POSSIBLE);
        dueRoute("as before", x, 0, 0, 6, 7, 8, 14, 13);
        for (int width = 2; width <= 8; width++) {
            RouteProofs y = Edges.sized(width, 3);
            y.step(3, width - 1);
            due("over the end of a row of " + width, y.step(3, width), NOT_POSSIBLE);
            y.step(4, width);
            due("over the start of a row of " + width, y.step(4, width - 1), NOT_POSSIBLE);
            y.step(0, 0);
            due("across a corner of " + width, y.step(0, width + 1), NOT_POSSIBLE);
            due("over the upper edge of " + width, y.step(0, 2 * width), NOT_POSSIBLE);
            y.step(1, 0);
            due("over the left edge of " + width, y.step(1, 3 * width - 1), NOT_POSSIBLE);
        }
        RouteProofs full = Edges.sized(8, 8);
        Edges.go(full, 0, Edges.snake(8, 8));
        for (int cell = 0; cell < 64; cell++) {
            due("a full route: " + cell, full.step(0, cell), NOT_POSSIBLE);
        }
        due("all 64", full.route(0, -1), 64);
    }

    private static void back() {
        DOC.promise(26);
        DOC.says("Returns the number of its cells then");
        RouteProofs x = Edges.sized(8, 8);
        Edges.go(x, 4, Edges.snake(8, 8));
        for (int cells = 63; cells >= 0; cells--) {
            due("back(4)", x.back(4), cells);
            due("its cells", x.route(4, -1), cells);
        }
        DOC.says("Drops the last cell of the route in a slot.");
        Edges.go(x, 0, 0, 1, 2);
        Edges.go(x, 1, 0, 1, 2);
        x.back(0);
        dueRoute("dropped", x, 0, 0, 1);
        dueRoute("not dropped", x, 1, 0, 1, 2);
        due("it can be appended again", x.step(0, 2), 3);
        x.wall(2, 1);
        due("a wall is dropped, too", x.back(0), 2);
        due("but not appended", x.step(0, 2), NOT_POSSIBLE);
        due("what is dropped no longer meets", x.meeting(0, 1), 0);
    }

    private static void backRefused() {
        DOC.says("NO_SUCH if there is no such slot");
        RouteProofs x = Edges.busy();
        for (int slot : Edges.outside(5)) {
            due("back(" + slot + ")", x.back(slot), NO_SUCH);
        }
        DOC.says("NOT_POSSIBLE if it is empty");
        due("empty at first", x.back(3), NOT_POSSIBLE);
        due("one cell", x.back(2), 0);
        due("empty then", x.back(2), NOT_POSSIBLE);
        due("once more", x.back(2), NOT_POSSIBLE);
        due("none", x.route(2, -1), 0);
        x.setUp(2, 2);
        for (int slot = 0; slot < 5; slot++) {
            due("after setUp: back(" + slot + ")", x.back(slot), NOT_POSSIBLE);
        }
    }

    private static void route() {
        DOC.promise(27);
        DOC.says("`index`: index of the cell, or -1 for the number of cells");
        RouteProofs x = Edges.sized(8, 8);
        int[] snake = Edges.snake(8, 8);
        for (int length = 0; length <= 64; length++) {
            due("route(3, -1)", x.route(3, -1), length);
            if (length < 64) {
                x.step(3, snake[length]);
            }
        }
        for (int index = 0; index < 64; index++) {
            due("route(3, " + index + ")", x.route(3, index), snake[index]);
        }
        DOC.says("NONE if there is no such index");
        int[] wrong = {-2, -3, 64, 65, 128, Edges.LOW, Edges.HIGH};
        for (int index : wrong) {
            due("of 64: route(3, " + index + ")", x.route(3, index), NONE);
            due("of none: route(0, " + index + ")", x.route(0, index), NONE);
        }
        due("of none: route(0, 0)", x.route(0, 0), NONE);
        x.back(3);
        due("the dropped one", x.route(3, 63), NONE);
        due("the last one", x.route(3, 62), snake[62]);
        DOC.says("NO_SUCH if there is no such slot");
        for (int slot : Edges.outside(5)) {
            due("route(" + slot + ", 0)", x.route(slot, 0), NO_SUCH);
            due("route(" + slot + ", -1)", x.route(slot, -1), NO_SUCH);
            due("route(" + slot + ", 99)", x.route(slot, 99), NO_SUCH);
        }
    }

    private static void aboutOpenCells() {
        DOC.promise(28);
        DOC.says("0 whether it is valid (1 or 0)");
        RouteProofs x = Edges.sized(8, 8);
        int[] snake = Edges.snake(8, 8);
        Edges.go(x, 0, snake);
        due("all open", x.about(0, 0), 1);
        for (int cell = 0; cell < 64; cell++) {
            x.wall(cell, 1);
            due("a wall at " + cell, x.about(0, 0), 0);
            x.wall(cell, 0);
        }
        due("all open again", x.about(0, 0), 1);
        DOC.says("1 whether it is falling");
        int[][] routes = {{0}, {0, 1}, {1, 0}, {0, 8}, {8, 0}, {0, 1, 9, 10}, {0, 1, 9, 8}, {62, 63}, {63, 62}, {7, 15}, {0, 8, 9, 1}};
        int[] falling = {1, 1, 0, 1, 0, 1, 0, 1, 0, 1, 0};
        for (int index = 0; index < routes.length; index++) {
            RouteProofs y = Edges.sized(8, 8);
            Edges.go(y, 4, routes[index]);
            due("route number " + index, y.about(4, 1), falling[index]);
        }
        DOC.says("(The empty route is valid and falling. For 0 to 2 the cells have to be open now.)");
        RouteProofs y = Texts.grid("s.t/...");
        due("empty: valid", y.about(2, 0), 1);
        due("empty: falling", y.about(2, 1), 1);
        due("empty: from source to target", y.about(2, 2), 0);
        due("empty: marked", y.about(2, 3), 0);
        due("empty: meets", y.about(2, 4), 0);
        Edges.go(y, 2, 0, 1, 2);
        for (int wall = 0; wall < 3; wall++) {
            y.wall(wall, 1);
            for (int what = 0; what <= 2; what++) {
                due("with a wall at " + wall + ": about(2, " + what + ")", y.about(2, what), 0);
            }
            y.wall(wall, 0);
            for (int what = 0; what <= 2; what++) {
                due("open again: about(2, " + what + ")", y.about(2, what), 1);
            }
        }
    }

    private static void aboutSourceToTarget() {
        DOC.says("2 whether it is not empty and goes from a source to a target");
        String[] texts = {"s.t/...", "t.s/...", "s.s/...", "t.t/...", "..t/...", "s../...", "sst/...", "stt/...", "m.t/...", "smt/..."};
        int[] wants = {1, 0, 0, 0, 0, 0, 1, 1, 0, 1};
        for (int index = 0; index < texts.length; index++) {
            RouteProofs x = Texts.grid(texts[index]);
            Edges.go(x, 0, 0, 1, 2);
            due("0, 1, 2 of " + texts[index], x.about(0, 2), wants[index]);
        }
        RouteProofs x = Texts.grid("st/..");
        x.step(0, 0);
        due("a source alone", x.about(0, 2), 0);
        x.step(1, 1);
        due("a target alone", x.about(1, 2), 0);
        x.step(0, 1);
        due("both", x.about(0, 2), 1);
        x.role(1, 0);
        due("no target any more", x.about(0, 2), 0);
        x.role(1, 2);
        x.role(0, 3);
        due("no source any more", x.about(0, 2), 0);
        x.back(1);
        due("empty again", x.about(1, 2), 0);
    }

    private static void aboutMarked() {
        DOC.says("3 the number of different open marked cells on it");
        RouteProofs all = Texts.grid(Edges.text(8, 8, "m"));
        int[] snake = Edges.snake(8, 8);
        due("none of them", all.about(0, 3), 0);
        for (int index = 0; index < 64; index++) {
            all.step(0, snake[index]);
            due("so many", all.about(0, 3), index + 1);
        }
        for (int index = 0; index < 64; index++) {
            all.wall(snake[index], 1);
            due("walls do not count", all.about(0, 3), 63 - index);
        }
        RouteProofs x = Texts.grid("m.s/t.m");
        Edges.go(x, 0, 0, 1, 2);
        due("one of three", x.about(0, 3), 1);
        x.role(0, 0);
        due("not marked any more", x.about(0, 3), 0);
        x.role(1, 3);
        x.wall(2, 1);
        due("of a route that is not valid", x.about(0, 3), 1);
    }

    private static void aboutOthers() {
        DOC.says("4 the set of the other slots whose routes it meets, as a bit mask");
        RouteProofs x = new RouteProofs();
        for (int slot = 0; slot < 5; slot++) {
            due("all empty", x.about(slot, 4), 0);
        }
        x.step(0, 0);
        due("alone", x.about(0, 4), 0);
        for (int slot = 1; slot < 5; slot++) {
            x.step(slot, 0);
        }
        for (int slot = 0; slot < 5; slot++) {
            due("all the same: " + slot, x.about(slot, 4), 31 & ~(1 << slot));
        }
        x.back(2);
        x.step(2, 35);
        due("one apart", x.about(2, 4), 0);
        due("the others", x.about(4, 4), 11);
        x.wall(0, 1);
        due("in a wall", x.about(4, 4), 11);
        RouteProofs y = new RouteProofs();
        Edges.go(y, 0, 0, 1, 2);
        Edges.go(y, 1, 14, 8, 2);
        Edges.go(y, 3, 14, 15);
        due("at the last cell of both", y.about(0, 4), 2);
        due("at the first cell of both, and the last", y.about(1, 4), 9);
        due("side by side they do not meet", y.about(3, 4), 2);
    }

    private static void aboutRefused() {
        DOC.says("NO_SUCH if there is no such slot");
        RouteProofs x = Edges.busy();
        for (int slot : Edges.outside(5)) {
            for (int what = 0; what <= 4; what++) {
                due("about(" + slot + ", " + what + ")", x.about(slot, what), NO_SUCH);
            }
        }
        DOC.says("BAD_VALUE if what is out of range");
        for (int what : Edges.outside(5)) {
            due("about(0, " + what + ")", x.about(0, what), BAD_VALUE);
            due("of an empty one: about(3, " + what + ")", x.about(3, what), BAD_VALUE);
        }
    }

    private static void meeting() {
        DOC.promise(29);
        DOC.says("Returns the cell");
        RouteProofs x = new RouteProofs();
        Edges.go(x, 1, 0, 1, 2, 3);
        Edges.go(x, 3, 3, 2, 1, 0);
        due("the first of the lower slot", x.meeting(1, 3), 0);
        due("also if the higher one is named first", x.meeting(3, 1), 0);
        Edges.go(x, 0, 9, 3);
        due("the last of both", x.meeting(0, 1), 3);
        due("the last and the first", x.meeting(3, 0), 3);
        DOC.says("NONE if they do not meet");
        due("both empty", x.meeting(2, 4), NONE);
        due("one empty", x.meeting(0, 2), NONE);
        due("the other empty", x.meeting(2, 0), NONE);
        Edges.go(x, 4, 6, 7, 8);
        due("side by side", x.meeting(4, 1), NONE);
        x.step(4, 2);
        due("then they do", x.meeting(4, 1), 2);
        x.back(4);
        due("and no more", x.meeting(4, 1), NONE);
    }

    private static void meetingRefused() {
        DOC.says("NO_SUCH if there is no such slot");
        RouteProofs x = Edges.busy();
        for (int slot : Edges.outside(5)) {
            due("meeting(" + slot + ", 0)", x.meeting(slot, 0), NO_SUCH);
            due("meeting(0, " + slot + ")", x.meeting(0, slot), NO_SUCH);
            due("meeting(" + slot + ", " + slot + ")", x.meeting(slot, slot), NO_SUCH);
        }
        DOC.says("BAD_VALUE if both slots are the same");
        for (int slot = 0; slot < 5; slot++) {
            due("meeting(" + slot + ", " + slot + ")", x.meeting(slot, slot), BAD_VALUE);
        }
    }

    private static void exchange() {
        DOC.promise(30);
        DOC.says("Returns the meeting");
        RouteProofs ends = new RouteProofs();
        Edges.go(ends, 0, 0, 1);
        Edges.go(ends, 4, 7, 1);
        due("no tails", ends.exchange(0, 4), 1);
        dueRoute("no tails", ends, 0, 0, 1);
        dueRoute("no tails", ends, 4, 7, 1);
        RouteProofs starts = new RouteProofs();
        Edges.go(starts, 2, 0, 1, 2);
        Edges.go(starts, 3, 0, 6);
        due("tails alone", starts.exchange(3, 2), 0);
        dueRoute("tails alone", starts, 2, 0, 6);
        dueRoute("tails alone", starts, 3, 0, 1, 2);
        RouteProofs one = new RouteProofs();
        Edges.go(one, 0, 8);
        Edges.go(one, 1, 7, 8, 9, 10);
        due("one cell", one.exchange(1, 0), 8);
        dueRoute("one cell", one, 0, 8, 9, 10);
        dueRoute("one cell", one, 1, 7, 8);
        due("the new tail is the route's", one.step(0, 9), NOT_POSSIBLE);
        due("the old tail is not", one.step(1, 9), 3);
        RouteProofs equal = new RouteProofs();
        Edges.go(equal, 0, 8, 9);
        Edges.go(equal, 1, 8, 9);
        due("the same routes", equal.exchange(0, 1), 8);
        dueRoute("the same routes", equal, 0, 8, 9);
        dueRoute("the same routes", equal, 1, 8, 9);
        RouteProofs longest = Edges.sized(8, 8);
        int[] snake = Edges.snake(8, 8);
        Edges.go(longest, 0, 0);
        Edges.go(longest, 1, snake);
        due("63 cells", longest.exchange(0, 1), 0);
        dueRoute("63 cells", longest, 0, snake);
        dueRoute("63 cells", longest, 1, 0);
    }

    private static void exchangeRefused() {
        DOC.says("NO_SUCH if there is no such slot");
        RouteProofs x = Edges.busy();
        for (int slot : Edges.outside(5)) {
            due("exchange(" + slot + ", 0)", x.exchange(slot, 0), NO_SUCH);
            due("exchange(0, " + slot + ")", x.exchange(0, slot), NO_SUCH);
            due("exchange(" + slot + ", " + slot + ")", x.exchange(slot, slot), NO_SUCH);
        }
        DOC.says("BAD_VALUE if both slots are the same");
        for (int slot = 0; slot < 5; slot++) {
            due("exchange(" + slot + ", " + slot + ")", x.exchange(slot, slot), BAD_VALUE);
        }
        dueRoute("as before", x, 0, 0, 1, 2, 8);
    }

    private static void exchangeNotPossible() {
        DOC.says("NOT_POSSIBLE if they do not meet, or a route would have a cell twice");
        RouteProofs x = Edges.busy();
        due("one empty", x.exchange(0, 3), NOT_POSSIBLE);
        due("the other empty", x.exchange(3, 0), NOT_POSSIBLE);
        due("apart", x.exchange(0, 2), NOT_POSSIBLE);
        due("both empty", new RouteProofs().exchange(0, 1), NOT_POSSIBLE);
        dueTwice(new int[] {1, 0, 6, 7, 8}, new int[] {8, 2, 1});
        dueTwice(new int[] {0, 1, 2}, new int[] {7, 8, 2, 1});
        dueTwice(new int[] {0, 1, 2, 3, 9}, new int[] {8, 2, 1, 7, 13});
        dueTwice(new int[] {0, 1}, new int[] {1, 0});
        RouteProofs fine = new RouteProofs();
        Edges.go(fine, 0, 0, 1, 2, 3, 9);
        Edges.go(fine, 1, 7, 1, 2, 8, 9, 15);
        due("more cells in common, but none twice", fine.exchange(0, 1), 1);
        dueRoute("none twice", fine, 0, 0, 1, 2, 8, 9, 15);
        dueRoute("none twice", fine, 1, 7, 1, 2, 3, 9);
    }

    /** Neither slot's number nor the order of the arguments helps if a cell would be there twice. */
    private static void dueTwice(int[] one, int[] two) {
        for (int turned = 0; turned < 2; turned++) {
            int[] lower = turned == 0 ? one : two;
            int[] upper = turned == 0 ? two : one;
            RouteProofs x = new RouteProofs();
            Edges.go(x, 1, lower);
            Edges.go(x, 2, upper);
            due("a cell twice", x.exchange(1, 2), NOT_POSSIBLE);
            due("a cell twice, the higher slot first", x.exchange(2, 1), NOT_POSSIBLE);
            dueRoute("as before", x, 1, lower);
            dueRoute("as before", x, 2, upper);
        }
    }

    private static void checkMarked() {
        DOC.promise(31);
        RouteProofs x = Texts.grid("mmmmm/M....");
        for (int slot = 0; slot < 5; slot++) {
            x.step(slot, slot);
        }
        DOC.says("`slots`: the set of the slots as a bit mask");
        for (int slots = 0; slots < 32; slots++) {
            due("check(" + slots + ", 0)", x.check(slots, 0), 5 - Integer.bitCount(slots));
        }
        x.wall(2, 1);
        DOC.says("0 how many open marked cells are on none of these routes");
        due("without a wall", x.check(0, 0), 4);
        due("a route on a wall", x.check(4, 0), 4);
        due("all", x.check(31, 0), 0);
        due("no marked cells", Edges.sized(8, 8).check(31, 0), 0);
        RouteProofs all = Texts.grid(Edges.text(8, 8, "m"));
        due("all cells, no routes", all.check(31, 0), 64);
        Edges.go(all, 3, Edges.snake(8, 8));
        due("all cells on one route", all.check(8, 0), 0);
        due("which is not asked for", all.check(23, 0), 64);
        Edges.go(all, 4, 0, 1);
        due("cells on two routes", all.check(24, 0), 0);
    }

    private static void checkProof() {
        DOC.says("1 whether they are all valid, not empty, go from sources to targets, and no two meet (1 or 0)");
        RouteProofs x = Texts.grid("s.t/s.t/s.t/s.t/s.t");
        due("no slots", x.check(0, 1), 1);
        for (int slot = 0; slot < 5; slot++) {
            due("an empty one: " + slot, x.check(1 << slot, 1), 0);
        }
        for (int slot = 0; slot < 5; slot++) {
            Edges.go(x, slot, 3 * slot, 3 * slot + 1, 3 * slot + 2);
        }
        for (int slots = 0; slots < 32; slots++) {
            due("all are fine: " + slots, x.check(slots, 1), 1);
        }
        for (int bad = 0; bad < 5; bad++) {
            dueWithout("a wall", x, bad, 3 * bad + 1);
            dueRoleless("no source", x, bad, 3 * bad, 1);
            dueRoleless("no target", x, bad, 3 * bad + 2, 2);
        }
        for (int one = 0; one < 5; one++) {
            for (int two = 0; two < one; two++) {
                dueMeeting(one, two);
            }
        }
    }

    private static void dueWithout(String title, RouteProofs x, int bad, int wall) {
        x.wall(wall, 1);
        for (int slots = 0; slots < 32; slots++) {
            due(title + " in " + bad + ": " + slots, x.check(slots, 1), 1 - (slots >> bad & 1));
        }
        x.wall(wall, 0);
    }

    private static void dueRoleless(String title, RouteProofs x, int bad, int cell, int role) {
        x.role(cell, 3);
        for (int slots = 0; slots < 32; slots++) {
            due(title + " in " + bad + ": " + slots, x.check(slots, 1), 1 - (slots >> bad & 1));
        }
        x.role(cell, role);
    }

    private static void dueMeeting(int one, int two) {
        RouteProofs x = Texts.grid("s.t/s.t/s.t/s.t/s.t");
        for (int slot = 0; slot < 5; slot++) {
            int row = slot == one ? two : slot;
            Edges.go(x, slot, 3 * row, 3 * row + 1, 3 * row + 2);
        }
        for (int slots = 0; slots < 32; slots++) {
            int both = (slots >> one & 1) & (slots >> two & 1);
            due(one + " and " + two + " meet: " + slots, x.check(slots, 1), 1 - both);
        }
    }

    private static void checkRefused() {
        DOC.says("NO_SUCH if there is no such slot in the set, or it is negative");
        RouteProofs x = Edges.busy();
        int[] wrong = {32, 33, 63, 64, 1 << 16, 1 << 30, Edges.HIGH, -1, -2, -31, -32, Edges.LOW, Edges.LOW + 1};
        for (int slots : wrong) {
            due("check(" + slots + ", 0)", x.check(slots, 0), NO_SUCH);
            due("check(" + slots + ", 1)", x.check(slots, 1), NO_SUCH);
        }
        DOC.says("BAD_VALUE if what is neither 0 nor 1");
        for (int what : Edges.outside(2)) {
            due("check(0, " + what + ")", x.check(0, what), BAD_VALUE);
            due("check(31, " + what + ")", x.check(31, what), BAD_VALUE);
        }
    }

    private static void countGrid() {
        DOC.promise(32);
        DOC.says("0 width, 1 height");
        for (int width = 2; width <= 8; width++) {
            for (int height = 2; height <= 8; height++) {
                RouteProofs x = Edges.sized(width, height);
                due("count(0)", x.count(0), width);
                due("count(1)", x.count(1), height);
            }
        }
        String[] signs = {".", "#", "s", "t", "m", "S", "T", "M"};
        int[][] counts = {{0, 0, 0, 0}, {64, 0, 0, 0}, {0, 64, 0, 0}, {0, 0, 64, 0}, {0, 0, 0, 64}, {64, 0, 0, 0}, {64, 0, 0, 0}, {64, 0, 0, 0}};
        DOC.says("2 walls, 3 sources, 4 targets, 5 open marked cells");
        for (int index = 0; index < signs.length; index++) {
            RouteProofs x = Texts.grid(Edges.text(8, 8, signs[index]));
            for (int what = 2; what <= 5; what++) {
                due("count(" + what + ") of 64 times " + signs[index], x.count(what), counts[index][what - 2]);
            }
        }
    }

    private static void countOthers() {
        RouteProofs x = new RouteProofs();
        DOC.says("6 pairs");
        for (int pairs = 0; pairs <= 4; pairs++) {
            due("count(6)", x.count(6), pairs);
            x.pair(0, 0);
        }
        due("a fifth", x.count(6), 4);
        x.unpair();
        due("none", x.count(6), 0);
        DOC.says("7 the set of the slots whose routes are not empty, as a bit mask");
        for (int slots = 0; slots < 32; slots++) {
            RouteProofs y = new RouteProofs();
            for (int slot = 0; slot < 5; slot++) {
                y.step(slot, slot);
                if ((slots >> slot & 1) == 0) {
                    y.back(slot);
                }
            }
            due("count(7)", y.count(7), slots);
        }
        DOC.says("8 the length of the pad");
        for (int length = 0; length <= 80; length++) {
            due("count(8)", x.count(8), length);
            x.put('.');
        }
        due("an 81st", x.count(8), 80);
        DOC.says("BAD_VALUE if what is out of range");
        for (int what : Edges.outside(9)) {
            due("count(" + what + ")", x.count(what), BAD_VALUE);
        }
    }

    private static void save() {
        DOC.promise(33);
        DOC.says("`place`: 0 or 1");
        RouteProofs both = new RouteProofs();
        both.wall(0, 1);
        due("save(0)", both.save(0), 1);
        both.wall(1, 1);
        due("save(1)", both.save(1), 2);
        due("restore(0)", both.restore(0), 1);
        due("restore(1)", both.restore(1), 2);
        DOC.says("Returns the number of walls");
        RouteProofs x = Edges.sized(8, 8);
        due("none", x.save(0), 0);
        for (int cell = 0; cell < 64; cell++) {
            x.wall(cell, 1);
            due("so many", x.save(cell % 2), cell + 1);
        }
        DOC.says("Saves the grid, switches, pairs and routes in a place, and overwrites what was saved there.");
        for (int place = 0; place < 2; place++) {
            RouteProofs y = Edges.busy();
            String before = Snapshot.of(y);
            y.save(1 - place);
            y.setUp(2, 2);
            y.pair(0, 3);
            y.save(place);
            y.restore(1 - place);
            due("the other place is not overwritten: " + place, Snapshot.of(y).equals(before) ? 1 : 0, 1);
            y.save(place);
            y.setUp(8, 8);
            y.restore(place);
            due("overwritten: " + place, Snapshot.of(y).equals(before) ? 1 : 0, 1);
        }
        RouteProofs early = Edges.busy();
        String saved = Snapshot.of(early);
        early.save(0);
        changeAll(early);
        due("changed", Snapshot.of(early).equals(saved) ? 1 : 0, 0);
        early.restore(0);
        due("what is saved does not change with the grid", Snapshot.of(early).equals(saved) ? 1 : 0, 1);
    }

    /** Changes something of all that is saved. */
    private static void changeAll(RouteProofs x) {
        x.wall(29, 1);
        x.role(28, 3);
        x.wire(0, 29);
        x.turn(3);
        x.pair(28, 28);
        x.back(0);
        x.back(1);
        x.back(2);
        x.step(3, 28);
        x.exchange(1, 4);
    }

    private static void saveRefused() {
        DOC.says("BAD_VALUE if there is no such place");
        RouteProofs x = Edges.busy();
        for (int place : Edges.outside(2)) {
            due("save(" + place + ")", x.save(place), BAD_VALUE);
        }
        due("nothing is saved in 0", x.restore(0), NOT_POSSIBLE);
        due("nothing is saved in 1", x.restore(1), NOT_POSSIBLE);
    }

    private static void restore() {
        DOC.promise(34);
        DOC.says("`place`: 0 or 1");
        RouteProofs both = new RouteProofs();
        both.save(0);
        both.setUp(2, 2);
        both.save(1);
        both.restore(0);
        due("restore(0)", both.count(0), 6);
        both.restore(1);
        due("restore(1)", both.count(0), 2);
        DOC.says("Returns the number of walls");
        RouteProofs walls = Texts.grid(Edges.text(8, 8, "#"));
        walls.save(1);
        walls.setUp(2, 2);
        walls.save(0);
        due("64", walls.restore(1), 64);
        due("none", walls.restore(0), 0);
        DOC.says("Restores what was saved last in a place, which keeps it.");
        int[][] sizes = {{6, 5}, {2, 2}, {8, 8}, {5, 6}};
        for (int[] size : sizes) {
            RouteProofs x = Edges.busy();
            String before = Snapshot.of(x);
            due("what is saved", x.save(1), x.count(2));
            for (int round = 0; round < 3; round++) {
                x.setUp(size[0], size[1]);
                changeAll(x);
                x.restore(1);
                due("round " + round, Snapshot.of(x).equals(before) ? 1 : 0, 1);
                changeAll(x);
                x.restore(1);
                due("round " + round + ", changed", Snapshot.of(x).equals(before) ? 1 : 0, 1);
            }
        }
        RouteProofs pad = Edges.busy();
        Texts.putAll(pad, "..");
        pad.save(0);
        Texts.putAll(pad, "/..");
        pad.restore(0);
        due("the pad is not of it", pad.count(8), 5);
        due("nor its text", pad.load(), 4);
        due("a place outlives a new grid", pad.restore(0), 5);
    }

    private static void restoreRefused() {
        DOC.says("NOT_POSSIBLE if nothing was saved in it");
        RouteProofs x = Edges.busy();
        String before = Snapshot.of(x);
        due("restore(0)", x.restore(0), NOT_POSSIBLE);
        due("restore(1)", x.restore(1), NOT_POSSIBLE);
        due("as before", Snapshot.of(x).equals(before) ? 1 : 0, 1);
        x.save(1);
        due("the other one", x.restore(0), NOT_POSSIBLE);
        due("this one", x.restore(1), x.count(2));
        RouteProofs y = new RouteProofs();
        y.save(0);
        due("the other one", y.restore(1), NOT_POSSIBLE);
        DOC.says("BAD_VALUE if there is no such place");
        for (int place : Edges.outside(2)) {
            due("restore(" + place + ")", x.restore(place), BAD_VALUE);
        }
    }
}
