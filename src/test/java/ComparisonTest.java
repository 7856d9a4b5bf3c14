import java.util.ArrayList;
import java.util.List;
import java.util.Random;

/**
 * Runs of calls on the class and on the plain model side by side; the numbers come from fixed seeds, so
 * that each run is always the same.
 */
public final class ComparisonTest {
    private static final Due DUE = new Due("ComparisonTest");
    private static final int[] ODD = {-1, -2, 64, 65, 1000, Integer.MIN_VALUE, Integer.MAX_VALUE};

    private final RouteProofs x = new RouteProofs();
    private final PlainModel model = new PlainModel();
    private final Random random;
    private final String title;
    private final int mostSide;

    private ComparisonTest(int seed, int mostSide) {
        this.random = new Random(seed);
        this.mostSide = mostSide;
        this.title = "seed " + seed + ", sides up to " + mostSide;
    }

    public static void main(String[] args) {
        for (int seed = 0; seed < 400 && DUE.isSpotless(); seed++) {
            new ComparisonTest(seed, 4).run(120);
        }
        for (int seed = 0; seed < 60 && DUE.isSpotless(); seed++) {
            new ComparisonTest(seed, 8).run(60);
        }
        for (int seed = 0; seed < 300 && DUE.isSpotless(); seed++) {
            new ComparisonTest(seed, 8).manyTuples();
        }
        DUE.end();
    }

    private void run(int rounds) {
        newGrid();
        for (int round = 0; round < rounds; round++) {
            oneCall(random.nextInt(40));
        }
    }

    private void due(String call, long got, long want) {
        DUE.same(title + ": " + call, got, want);
    }

    /** Mostly a number below a bound, sometimes any other. */
    private int number(int bound) {
        if (random.nextInt(25) == 0) {
            return random.nextBoolean() ? bound : ODD[random.nextInt(ODD.length)];
        }
        return random.nextInt(bound);
    }

    private int cell() {
        return number(model.cells());
    }

    private void newGrid() {
        int width = 2 + random.nextInt(mostSide - 1);
        int height = 2 + random.nextInt(mostSide - 1);
        String signs = "......##sstmmmmSTM".substring(0, 6 + random.nextInt(13)) + "st";
        StringBuilder text = new StringBuilder();
        for (int y = 0; y < height; y++) {
            text.append(y == 0 ? "" : "/");
            for (int z = 0; z < width; z++) {
                text.append(signs.charAt(random.nextInt(signs.length())));
            }
        }
        x.wipe();
        model.wipe();
        putAll(text.toString());
        due("load " + text, x.load(), model.load());
        for (int wire = 0; wire < width; wire++) {
            int lever = random.nextInt(4);
            int cell = random.nextInt(width * height);
            due("wire", x.wire(lever, cell), model.wire(lever, cell));
        }
    }

    private void putAll(String text) {
        for (int start = 0; start < text.length(); start += 8) {
            long characters = Texts.packed(text.substring(start, Math.min(start + 8, text.length())));
            due("put " + characters, x.put(characters), model.put(characters));
        }
    }

    /** A text that is nearly a grid, with a slip here and there. */
    private void badText() {
        x.wipe();
        model.wipe();
        int width = 1 + random.nextInt(9);
        int rows = 1 + random.nextInt(10);
        StringBuilder text = new StringBuilder();
        for (int y = 0; y < rows && text.length() < 70; y++) {
            text.append(y == 0 ? "" : "/");
            for (int z = 0; z < width; z++) {
                text.append(".#sStTmM".charAt(random.nextInt(8)));
            }
        }
        int slips = random.nextInt(3);
        for (int slip = 0; slip < slips; slip++) {
            int at = random.nextInt(text.length());
            text.insert(at, "/.x!~s".charAt(random.nextInt(6)));
            if (random.nextBoolean()) {
                text.deleteCharAt(random.nextInt(text.length()));
            }
        }
        putAll(text.substring(0, Math.min(80, text.length())));
        due("fault of " + text, x.fault(), model.fault());
        if (random.nextInt(3) == 0) {
            due("load of " + text, x.load(), model.load());
        }
    }

    private void walk() {
        int slot = number(5);
        int cell = cell();
        for (int step = 0; step < 12; step++) {
            int got = x.step(slot, cell);
            due("step(" + slot + ", " + cell + ")", got, model.step(slot, cell));
            int width = x.count(0);
            int[] sides = {1, -1, width, -width};
            cell += sides[random.nextInt(4)];
        }
        for (int index = -2; index < 12; index++) {
            due("route(" + slot + ", " + index + ")", x.route(slot, index), model.route(slot, index));
        }
    }

    private void oneCall(int kind) {
        if (kind < 12) {
            change(kind);
        } else if (kind < 24) {
            askOfFree(kind - 12);
        } else if (kind < 32) {
            askOfFalling(kind - 24);
        } else {
            askOfSlots(kind - 32);
        }
    }

    private void change(int kind) {
        int a = cell();
        int b = number(4);
        switch (kind) {
            case 0: due("wall(" + a + ", " + b % 3 + ")", x.wall(a, b % 3), model.wall(a, b % 3)); break;
            case 1: case 2: due("role(" + a + ", " + b + ")", x.role(a, b), model.role(a, b)); break;
            case 3: due("wire(" + b + ", " + a + ")", x.wire(b, a), model.wire(b, a)); break;
            case 4: due("turn(" + b + ")", x.turn(b), model.turn(b)); break;
            case 5: due("save(" + b % 2 + ")", x.save(b % 2), model.save(b % 2)); break;
            case 6: due("restore(" + b % 2 + ")", x.restore(b % 2), model.restore(b % 2)); break;
            case 7: badText(); break;
            case 8: putOdd(); break;
            case 9: sizeOrPairs(); break;
            default: due("pair", x.pair(a, near(a)), model.pair(a, near(a)));
        }
    }

    /** A cell that likely lies behind another one; the same each time for the same cell. */
    private int near(int cell) {
        return cell < 0 ? 0 : cell + (model.cells() - cell) * 2 / 3;
    }

    private void putOdd() {
        long characters = random.nextLong() >>> 8 * random.nextInt(8);
        long printable = characters & 0x3f3f3f3f3f3f3f3fL | 0x2121212121212121L >>> 8 * random.nextInt(8);
        due("put " + characters, x.put(characters), model.put(characters));
        due("put " + printable, x.put(printable), model.put(printable));
        due("fault", x.fault(), model.fault());
        if (random.nextInt(4) == 0) {
            due("wipe", x.wipe(), model.wipe());
        }
    }

    /** Pairs from near the first cell to near the last one on a grid with few walls: often very many tuples. */
    private void manyTuples() {
        int width = 6 + random.nextInt(3);
        int height = 6 + random.nextInt(3);
        due("setUp", x.setUp(width, height), model.setUp(width, height));
        int walls = random.nextInt(5);
        for (int wall = 0; wall < walls; wall++) {
            int cell = random.nextInt(width * height);
            due("wall(" + cell + ", 1)", x.wall(cell, 1), model.wall(cell, 1));
        }
        int pairs = 2 + random.nextInt(3);
        List<Integer> starts = nearFirst(pairs, width);
        List<Integer> ends = nearFirst(pairs, width);
        for (int pair = 0; pair < pairs; pair++) {
            int start = starts.get(pair);
            int end = width * height - 1 - ends.get(pairs - 1 - pair);
            due("pair(" + start + ", " + end + ")", x.pair(start, end), model.pair(start, end));
            due("tuples", x.tuples(), model.tuples());
            due("determinant", x.determinant(), model.determinant());
        }
    }

    /** Cells near the first one, from the upper right to the lower left, so that routes need not cross; a few anywhere. */
    private List<Integer> nearFirst(int number, int width) {
        List<Integer> cells = new ArrayList<>();
        for (int index = 0; index < number; index++) {
            int along = random.nextInt(2);
            boolean moved = random.nextInt(12) == 0;
            int row = moved ? random.nextInt(4) : index + along;
            int column = moved ? random.nextInt(4) : number - 1 - index + along;
            cells.add(row * width + column);
        }
        return cells;
    }

    private void sizeOrPairs() {
        if (random.nextBoolean()) {
            due("unpair", x.unpair(), model.unpair());
        } else if (random.nextInt(4) == 0) {
            int width = 2 + number(mostSide - 1);
            int height = 2 + number(mostSide - 1);
            boolean fits = width < 2 || width > 8 || height < 2 || height > 8 || width <= mostSide && height <= mostSide;
            if (fits) {
                due("setUp(" + width + ", " + height + ")", x.setUp(width, height), model.setUp(width, height));
            }
        } else {
            newGrid();
        }
    }

    private void askOfFree(int kind) {
        int a = cell();
        int b = cell();
        int flag = number(2);
        int index = number(8);
        switch (kind) {
            case 0: due("steps(" + a + ", " + b + ")", x.steps(a, b), model.steps(a, b)); break;
            case 1: due("shortest", x.shortest(a, b, index), model.shortest(a, b, index)); break;
            case 2: due("flow", x.flow(), model.flow()); break;
            case 3: case 4: due("pass(" + flag + ", " + index % 4 + ")", x.pass(flag, index % 4), model.pass(flag, index % 4)); break;
            case 5: due("changed(" + a + ")", x.changed(a), model.changed(a)); break;
            case 6: due("bestTurns(" + flag + ")", x.bestTurns(flag), model.bestTurns(flag)); break;
            case 7: due("cover", x.cover(), model.cover()); break;
            case 8: due("group(" + index % 4 + ")", x.group(index % 4), model.group(index % 4)); break;
            default: {
                int what = number(9);
                due("cell(" + a + ", " + what + ")", x.cell(a, what), model.cell(a, what));
            }
        }
    }

    private void askOfFalling(int kind) {
        int a = cell();
        int b = cell();
        switch (kind) {
            case 0: due("falling(" + a + ", " + b + ")", x.falling(a, b), model.falling(a, b)); break;
            case 1: due("determinant", x.determinant(), model.determinant()); break;
            case 2: case 3: case 4: due("tuples", x.tuples(), model.tuples()); break;
            default: due("pair(" + a + ", " + b + ")", x.pair(a, b), model.pair(a, b));
        }
    }

    private void askOfSlots(int kind) {
        int a = number(5);
        int b = number(5);
        int mask = number(32);
        int flag = number(2);
        switch (kind) {
            case 0: due("back(" + a + ")", x.back(a), model.back(a)); break;
            case 1: due("about(" + a + ", " + b + ")", x.about(a, b), model.about(a, b)); break;
            case 2: due("meeting(" + a + ", " + b + ")", x.meeting(a, b), model.meeting(a, b)); break;
            case 3: due("exchange(" + a + ", " + b + ")", x.exchange(a, b), model.exchange(a, b)); break;
            case 4: due("check(" + mask + ", " + flag + ")", x.check(mask, flag), model.check(mask, flag)); break;
            case 5: {
                int what = number(9);
                due("count(" + what + ")", x.count(what), model.count(what));
                break;
            }
            default: walk();
        }
    }
}
