/** The conventions of the document: refused calls, the order of errors, and what no call may change. */
public final class RefusedCallsTest {
    private static final int NO_SUCH = -1, BAD_VALUE = -2, BAD_TEXT = -3, TOO_MANY = -4, NOT_POSSIBLE = -5, NONE = -6;
    private static final long GONE = -1000000000000000000L;
    private static final int LOW = Integer.MIN_VALUE, HIGH = Integer.MAX_VALUE;
    private static final Sentences DOC = new Sentences("RefusedCallsTest");
    private static String untouched = "";

    private interface Call {
        long on(RouteProofs x);
    }

    private RefusedCallsTest() {
    }

    public static void main(String[] args) {
        DOC.section("Description");
        errorCodes();
        DOC.says("A call that returns an error changes nothing.");
        untouched = Snapshot.ofAll(full());
        refusedOnTheGrid();
        refusedTexts();
        refusedCounts();
        refusedRoutes();
        refusedChecksAndPlaces();
        orderOfErrors();
        noneIsNoError();
        goneOnlyIfSaid();
        questionsChangeNothing();
        manyCalls();
        DOC.endWithDescription("A method that fails", "Everything is numbered");
    }

    private static void due(String call, long got, long want) {
        DOC.due(call, got, want);
    }

    private static void errorCodes() {
        DOC.says("A method that fails returns one of the error codes NO_SUCH (-1), BAD_VALUE (-2), BAD_TEXT (-3), TOO_MANY (-4) and"
            + " NOT_POSSIBLE (-5)");
        RouteProofs x = full();
        due("NO_SUCH", x.turn(4), -1);
        due("BAD_VALUE", x.save(2), -2);
        due("BAD_TEXT", x.load(), -3);
        due("TOO_MANY", x.put('.'), -4);
        due("NOT_POSSIBLE", x.restore(1), -5);
    }

    /** Full of everything: four pairs, a pad of 80 characters, a place saved and the other one not. */
    private static RouteProofs full() {
        RouteProofs x = Edges.busy();
        x.save(0);
        x.pair(1, 29);
        x.wall(20, 1);
        Texts.putAll(x, Edges.text(8, 8, "m") + "/mmmmmmmm");
        return x;
    }

    private static void refused(String title, long want, Call call) {
        RouteProofs x = full();
        due(title, call.on(x), want);
        due(title + " changes nothing", Snapshot.ofAll(x).equals(untouched) ? 1 : 0, 1);
    }

    private static void refusedOnTheGrid() {
        refused("setUp(1, 5)", BAD_VALUE, x -> x.setUp(1, 5));
        refused("setUp(9, 5)", BAD_VALUE, x -> x.setUp(9, 5));
        refused("setUp(5, 1)", BAD_VALUE, x -> x.setUp(5, 1));
        refused("setUp(5, 9)", BAD_VALUE, x -> x.setUp(5, 9));
        refused("setUp(LOW, HIGH)", BAD_VALUE, x -> x.setUp(LOW, HIGH));
        refused("wall(30, 1)", NO_SUCH, x -> x.wall(30, 1));
        refused("wall(-1, 1)", NO_SUCH, x -> x.wall(-1, 1));
        refused("wall(64, 1)", NO_SUCH, x -> x.wall(64, 1));
        refused("wall(0, 2)", BAD_VALUE, x -> x.wall(0, 2));
        refused("wall(3, -1)", BAD_VALUE, x -> x.wall(3, -1));
        refused("role(30, 1)", NO_SUCH, x -> x.role(30, 1));
        refused("role(-1, 1)", NO_SUCH, x -> x.role(-1, 1));
        refused("role(64, 1)", NO_SUCH, x -> x.role(64, 1));
        refused("role(0, 4)", BAD_VALUE, x -> x.role(0, 4));
        refused("role(0, -1)", BAD_VALUE, x -> x.role(0, -1));
        refused("wire(4, 1)", NO_SUCH, x -> x.wire(4, 1));
        refused("wire(-1, 1)", NO_SUCH, x -> x.wire(-1, 1));
        refused("wire(0, 30)", NO_SUCH, x -> x.wire(0, 30));
        refused("wire(0, -1)", NO_SUCH, x -> x.wire(0, -1));
        refused("wire(0, 65)", NO_SUCH, x -> x.wire(0, 65));
        refused("turn(4)", NO_SUCH, x -> x.turn(4));
        refused("turn(-1)", NO_SUCH, x -> x.turn(-1));
        refused("cell(30, 0)", NO_SUCH, x -> x.cell(30, 0));
        refused("cell(-1, 0)", NO_SUCH, x -> x.cell(-1, 0));
        refused("cell(0, 9)", BAD_VALUE, x -> x.cell(0, 9));
        refused("cell(0, -1)", BAD_VALUE, x -> x.cell(0, -1));
    }

    private static void refusedTexts() {
        refused("put(0)", BAD_VALUE, x -> x.put(0));
        refused("put(32)", BAD_VALUE, x -> x.put(32));
        refused("put(127)", BAD_VALUE, x -> x.put(127));
        refused("put('.' << 8)", BAD_VALUE, x -> x.put('.' << 8));
        refused("put('.')", TOO_MANY, x -> x.put('.'));
        refused("put(eight)", TOO_MANY, x -> x.put(Texts.packed("mmmmmmmm")));
        refused("load()", BAD_TEXT, x -> x.load());
        RouteProofs little = new RouteProofs();
        Texts.putAll(little, "#.");
        long[] wrong = {0, 32, 127, '/' << 8, (long) '.' << 40 | '/', 0x2F7F, 0x7F2F, Long.MIN_VALUE, -1};
        for (long characters : wrong) {
            due("put " + characters, little.put(characters), BAD_VALUE);
        }
        due("two characters still", little.count(8), 2);
        Texts.putAll(little, "/.m");
        due("and nothing between them", little.load(), 4);
        due("the first cell", little.cell(0, 0), 1);
        due("the last cell", little.cell(3, 1), 3);
        RouteProofs near = new RouteProofs();
        Texts.putAll(near, Edges.text(8, 8, "#"));
        due("eleven more", Texts.putAll(near, "/.........."), TOO_MANY);
        due("but the first eight fit", near.count(8), 79);
        due("two more", near.put(Texts.packed("..")), TOO_MANY);
        due("not even one of them", near.count(8), 79);
    }

    private static void refusedCounts() {
        refused("falling(30, 0)", GONE + NO_SUCH, x -> x.falling(30, 0));
        refused("falling(0, -1)", GONE + NO_SUCH, x -> x.falling(0, -1));
        refused("pair(30, 0)", NO_SUCH, x -> x.pair(30, 0));
        refused("pair(0, 30)", NO_SUCH, x -> x.pair(0, 30));
        refused("pair(-1, 0)", NO_SUCH, x -> x.pair(-1, 0));
        refused("pair(0, 1)", TOO_MANY, x -> x.pair(0, 1));
        refused("steps(30, 0)", NO_SUCH, x -> x.steps(30, 0));
        refused("steps(0, -1)", NO_SUCH, x -> x.steps(0, -1));
        refused("shortest(30, 0, 0)", NO_SUCH, x -> x.shortest(30, 0, 0));
        refused("shortest(0, -1, 0)", NO_SUCH, x -> x.shortest(0, -1, 0));
        refused("pass(2, 0)", BAD_VALUE, x -> x.pass(2, 0));
        refused("pass(-1, 0)", BAD_VALUE, x -> x.pass(-1, 0));
        refused("changed(30)", NO_SUCH, x -> x.changed(30));
        refused("changed(-1)", NO_SUCH, x -> x.changed(-1));
        refused("bestTurns(2)", BAD_VALUE, x -> x.bestTurns(2));
        refused("bestTurns(-1)", BAD_VALUE, x -> x.bestTurns(-1));
        RouteProofs three = new RouteProofs();
        Edges.pairs(three, 0, 7, 14, 21, 28, 35);
        long tuples = three.tuples();
        due("a pair without an end", three.pair(3, 36), NO_SUCH);
        due("three still", three.count(6), 3);
        due("as many tuples", three.tuples(), tuples);
    }

    private static void refusedRoutes() {
        refused("step(5, 24)", NO_SUCH, x -> x.step(5, 24));
        refused("step(-1, 24)", NO_SUCH, x -> x.step(-1, 24));
        refused("step(0, 30)", NO_SUCH, x -> x.step(0, 30));
        refused("step(3, -1)", NO_SUCH, x -> x.step(3, -1));
        refused("step to a wall", NOT_POSSIBLE, x -> x.step(3, 20));
        refused("step to a cell of the route", NOT_POSSIBLE, x -> x.step(0, 2));
        refused("step to the last cell", NOT_POSSIBLE, x -> x.step(0, 8));
        refused("step too far", NOT_POSSIBLE, x -> x.step(0, 10));
        refused("back(5)", NO_SUCH, x -> x.back(5));
        refused("back(-1)", NO_SUCH, x -> x.back(-1));
        refused("back(3)", NOT_POSSIBLE, x -> x.back(3));
        refused("route(5, 0)", NO_SUCH, x -> x.route(5, 0));
        refused("route(-1, 0)", NO_SUCH, x -> x.route(-1, 0));
        refused("about(5, 0)", NO_SUCH, x -> x.about(5, 0));
        refused("about(-1, 0)", NO_SUCH, x -> x.about(-1, 0));
        refused("about(0, 5)", BAD_VALUE, x -> x.about(0, 5));
        refused("meeting(5, 0)", NO_SUCH, x -> x.meeting(5, 0));
        refused("meeting(0, -1)", NO_SUCH, x -> x.meeting(0, -1));
        refused("meeting(1, 1)", BAD_VALUE, x -> x.meeting(1, 1));
        refused("exchange(5, 0)", NO_SUCH, x -> x.exchange(5, 0));
        refused("exchange(0, -1)", NO_SUCH, x -> x.exchange(0, -1));
        refused("exchange(1, 1)", BAD_VALUE, x -> x.exchange(1, 1));
        refused("exchange(0, 2)", NOT_POSSIBLE, x -> x.exchange(0, 2));
        refused("exchange(0, 3)", NOT_POSSIBLE, x -> x.exchange(0, 3));
        RouteProofs twice = new RouteProofs();
        Edges.go(twice, 0, 0, 1, 2);
        Edges.go(twice, 1, 8, 2, 1, 7);
        String before = Snapshot.of(twice);
        due("a cell twice", twice.exchange(0, 1), NOT_POSSIBLE);
        due("a cell twice changes nothing", Snapshot.of(twice).equals(before) ? 1 : 0, 1);
    }

    private static void refusedChecksAndPlaces() {
        refused("check(32, 0)", NO_SUCH, x -> x.check(32, 0));
        refused("check(-1, 1)", NO_SUCH, x -> x.check(-1, 1));
        refused("check(0, 2)", BAD_VALUE, x -> x.check(0, 2));
        refused("count(9)", BAD_VALUE, x -> x.count(9));
        refused("count(-1)", BAD_VALUE, x -> x.count(-1));
        refused("save(2)", BAD_VALUE, x -> x.save(2));
        refused("save(-1)", BAD_VALUE, x -> x.save(-1));
        refused("restore(2)", BAD_VALUE, x -> x.restore(2));
        refused("restore(-1)", BAD_VALUE, x -> x.restore(-1));
        refused("restore(1)", NOT_POSSIBLE, x -> x.restore(1));
    }

    /** In each call two errors apply, or more. */
    private static void orderOfErrors() {
        DOC.says("A method names its errors in the order in which they are checked, and the first one that applies is returned.");
        refused("wall(30, 2)", NO_SUCH, x -> x.wall(30, 2));
        refused("wall(LOW, HIGH)", NO_SUCH, x -> x.wall(LOW, HIGH));
        refused("role(30, 4)", NO_SUCH, x -> x.role(30, 4));
        refused("role(HIGH, LOW)", NO_SUCH, x -> x.role(HIGH, LOW));
        refused("cell(30, 9)", NO_SUCH, x -> x.cell(30, 9));
        refused("cell(-1, -1)", NO_SUCH, x -> x.cell(-1, -1));
        refused("put(0) on a full pad", BAD_VALUE, x -> x.put(0));
        refused("put(32) on a full pad", BAD_VALUE, x -> x.put(32));
        refused("put(-1) on a full pad", BAD_VALUE, x -> x.put(-1));
        refused("pair(30, 0) with four pairs", NO_SUCH, x -> x.pair(30, 0));
        refused("pair(0, -1) with four pairs", NO_SUCH, x -> x.pair(0, -1));
        refused("step(5, 20), a wall", NO_SUCH, x -> x.step(5, 20));
        refused("step(0, 30), not adjacent either", NO_SUCH, x -> x.step(0, 30));
        refused("back(5), nothing there", NO_SUCH, x -> x.back(5));
        refused("about(5, 5)", NO_SUCH, x -> x.about(5, 5));
        refused("about(-1, -1)", NO_SUCH, x -> x.about(-1, -1));
        refused("meeting(5, 5)", NO_SUCH, x -> x.meeting(5, 5));
        refused("meeting(-1, -1)", NO_SUCH, x -> x.meeting(-1, -1));
        refused("exchange(5, 5)", NO_SUCH, x -> x.exchange(5, 5));
        refused("exchange(-1, -1)", NO_SUCH, x -> x.exchange(-1, -1));
        refused("exchange(5, 3), an empty one", NO_SUCH, x -> x.exchange(5, 3));
        refused("exchange(3, 3), an empty one", BAD_VALUE, x -> x.exchange(3, 3));
        refused("check(32, 2)", NO_SUCH, x -> x.check(32, 2));
        refused("check(-1, -1)", NO_SUCH, x -> x.check(-1, -1));
        refused("restore(2), nothing there", BAD_VALUE, x -> x.restore(2));
    }

    private static void noneIsNoError() {
        DOC.says("NONE (-6) is not an error; it is returned only if no error applies.");
        refused("steps(20, 30), from a wall", NO_SUCH, x -> x.steps(20, 30));
        refused("steps(30, 20), to a wall", NO_SUCH, x -> x.steps(30, 20));
        refused("shortest(0, 30, 99)", NO_SUCH, x -> x.shortest(0, 30, 99));
        refused("shortest(30, 0, -1)", NO_SUCH, x -> x.shortest(30, 0, -1));
        refused("shortest(20, 30, 0), from a wall", NO_SUCH, x -> x.shortest(20, 30, 0));
        refused("pass(2, 99)", BAD_VALUE, x -> x.pass(2, 99));
        refused("pass(-1, -1)", BAD_VALUE, x -> x.pass(-1, -1));
        refused("route(5, 99)", NO_SUCH, x -> x.route(5, 99));
        refused("route(-1, -2)", NO_SUCH, x -> x.route(-1, -2));
        refused("meeting(3, 5), an empty one", NO_SUCH, x -> x.meeting(3, 5));
        refused("meeting(3, 3), an empty one", BAD_VALUE, x -> x.meeting(3, 3));
        refused("steps(20, 20)", NONE, x -> x.steps(20, 20));
        refused("shortest(0, 1, 2)", NONE, x -> x.shortest(0, 1, 2));
        refused("pass(0, 64)", NONE, x -> x.pass(0, 64));
        refused("group(64)", NONE, x -> x.group(64));
        refused("route(3, 0)", NONE, x -> x.route(3, 0));
        refused("meeting(2, 3)", NONE, x -> x.meeting(2, 3));
        RouteProofs x = new RouteProofs();
        Texts.putAll(x, "../..");
        due("fault()", x.fault(), NONE);
    }

    private static void goneOnlyIfSaid() {
        DOC.says("methods that return a long return GONE plus the code instead, if that is said");
        RouteProofs x = new RouteProofs();
        due("falling(36, 0)", x.falling(36, 0), -1000000000000000001L);
        due("falling(0, 36)", x.falling(0, 36), -1000000000000000001L);
        Edges.pairs(x, 35, 0, 35, 0, 35, 0, 35, 0);
        due("tuples() without any", x.tuples(), 0);
        due("determinant() without any", x.determinant(), 0);
        for (int cell = 0; cell < 36; cell++) {
            x.wall(cell, 1);
        }
        due("tuples() among walls", x.tuples(), 0);
        due("determinant() among walls", x.determinant(), 0);
        due("falling() among walls", x.falling(0, 35), 0);
    }

    private static void questionsChangeNothing() {
        DOC.section("Not promised");
        DOC.says("Nothing is promised beyond the answers and state changes described above");
        RouteProofs x = full();
        String before = Snapshot.of(x);
        due("asked twice", Snapshot.of(x).equals(before) ? 1 : 0, 1);
        for (int a = -1; a < 31; a++) {
            for (int b = -1; b < 31; b++) {
                x.falling(a, b);
                x.steps(a, b);
                x.shortest(a, b, a);
                x.pass(a, b);
                x.route(a, b);
                x.about(a, b);
                x.meeting(a, b);
                x.check(a, b);
                x.cell(a, b);
            }
            x.changed(a);
            x.bestTurns(a);
            x.group(a);
            x.count(a);
        }
        x.tuples();
        x.determinant();
        x.flow();
        x.cover();
        x.fault();
        due("asked everything", Snapshot.of(x).equals(before) ? 1 : 0, 1);
        due("the pad and the places, too", Snapshot.ofAll(x).equals(untouched) ? 1 : 0, 1);
    }

    private static void manyCalls() {
        DOC.section("What it is");
        DOC.says("An object is used for at most 512 calls after it has been made; what later calls answer is free.");
        RouteProofs x = new RouteProofs();
        int calls = 0;
        for (int round = 0; round < 32; round++) {
            calls += dearRound(x);
        }
        due("so many calls", calls, 512);
    }

    /** Sixteen calls that use all of the object's rows, with the answers of a new one. */
    private static int dearRound(RouteProofs x) {
        due("setUp", x.setUp(8, 8), 64);
        due("pair 0", x.pair(1, 55), 0);
        due("pair 1", x.pair(8, 62), 1);
        due("tuples", x.tuples(), 226512);
        due("determinant", x.determinant(), 226512);
        due("falling", x.falling(0, 63), 3432);
        due("role", x.role(0, 1), 0);
        due("role", x.role(63, 2), 0);
        due("flow", x.flow(), 1);
        due("shortest", x.shortest(0, 63, 14), 63);
        due("marked", x.role(20, 3), 0);
        due("group", x.group(0), 20);
        due("step", x.step(0, 63), 1);
        due("save", x.save(0), 0);
        due("put", x.put('.'), 1);
        due("wipe", x.wipe(), 1);
        return 16;
    }
}
