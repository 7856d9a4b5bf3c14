import java.util.ArrayList;
import java.util.List;
import java.util.Random;

/**
 * The sentences of the description about the flow and about covering, one by one: by hand, and on small
 * grids by trying out all sets of cells. A set of cells is a number whose bits are the cells.
 */
public final class DescriptionFlowTest {
    private static final int NONE = -6;
    private static final int[][] SMALL = {{2, 2}, {3, 2}, {2, 4}, {5, 2}, {3, 3}, {4, 3}, {3, 4}, {2, 6}, {6, 2}};
    private static final Sentences DOC = new Sentences("DescriptionFlowTest");

    private DescriptionFlowTest() {
    }

    public static void main(String[] args) {
        DOC.section("Description");
        sourcesAndTargets();
        flow();
        furtherSources();
        passes();
        smallestPasses();
        nearSides();
        nearAndFar();
        coverNumber();
        groups();
        greatestGroups();
        firstGroup();
        DOC.endWithDescription("Sources and targets are", "There are 5 slots");
    }

    private static void due(String call, long got, long want) {
        DOC.due(call, got, want);
    }

    // ---- small grids, and what can be tried out on them

    private static String smallText(int seed, String signs) {
        Random random = new Random(seed);
        int[] size = SMALL[seed % SMALL.length];
        StringBuilder text = new StringBuilder();
        for (int row = 0; row < size[1]; row++) {
            text.append(row == 0 ? "" : "/");
            for (int column = 0; column < size[0]; column++) {
                text.append(signs.charAt(random.nextInt(signs.length())));
            }
        }
        return text.toString();
    }

    /** Few sources and targets, some at the first and the last cells, so that there are several ways to part them. */
    private static String partedText(int seed) {
        StringBuilder text = new StringBuilder(smallText(seed, "....#"));
        Random random = new Random(seed);
        for (int number = 0; number < 2; number++) {
            setCell(text, random.nextInt(text.length() / 2), 's');
            setCell(text, text.length() - 1 - random.nextInt(text.length() / 2), 't');
        }
        return text.toString();
    }

    private static void setCell(StringBuilder text, int at, char sign) {
        if (text.charAt(at) != '/') {
            text.setCharAt(at, sign);
        }
    }

    private static int with(RouteProofs x, int role) {
        int set = 0;
        for (int cell = 0; cell < x.count(0) * x.count(1); cell++) {
            set |= x.cell(cell, 0) == 0 && (role < 0 || x.cell(cell, 1) == role) ? 1 << cell : 0;
        }
        return set;
    }

    private static int reached(RouteProofs x, int from, int open) {
        int width = x.count(0);
        int cells = width * x.count(1);
        int seen = from & open;
        for (boolean grows = true; grows; ) {
            int before = seen;
            for (int cell = 0; cell < cells; cell++) {
                if ((seen >> cell & 1) == 1) {
                    seen |= cell % width > 0 ? 1 << cell - 1 : 0;
                    seen |= cell % width < width - 1 ? 1 << cell + 1 : 0;
                    seen |= cell >= width ? 1 << cell - width : 0;
                    seen |= cell + width < cells ? 1 << cell + width : 0;
                    seen &= open;
                }
            }
            grows = seen != before;
        }
        return seen;
    }

    /** All passes with the fewest cells. */
    private static List<Integer> smallestPassesOf(RouteProofs x, int sources, int targets) {
        int open = with(x, -1);
        List<Integer> passes = new ArrayList<>();
        int fewest = 32;
        for (int set = open; set >= 0; set = set == 0 ? -1 : set - 1 & open) {
            int size = Integer.bitCount(set);
            if (size <= fewest && (reached(x, sources, open & ~set) & targets) == 0) {
                if (size < fewest) {
                    passes.clear();
                }
                fewest = size;
                passes.add(set);
            }
        }
        return passes;
    }

    /** Of some passes the one whose near side is a part of all others; -1 if there is none. */
    private static int nearestOf(RouteProofs x, List<Integer> passes, int sources) {
        int open = with(x, -1);
        int common = -1;
        for (int pass : passes) {
            common &= reached(x, sources, open & ~pass);
        }
        for (int pass : passes) {
            if (reached(x, sources, open & ~pass) == common) {
                return pass;
            }
        }
        return -1;
    }

    private static int answeredPass(RouteProofs x, int far) {
        int set = 0;
        for (int index = 0; index < 64 && x.pass(far, index) != NONE; index++) {
            set |= 1 << x.pass(far, index);
        }
        return set;
    }

    // ---- the flow

    private static void sourcesAndTargets() {
        DOC.says("Sources and targets are the open cells with these roles.");
        RouteProofs x = Texts.grid("sSm/.../tT#");
        due("sources", x.count(3), 1);
        due("targets", x.count(4), 1);
        due("the flow", x.flow(), 1);
        due("with the second source open", x.changed(1), 1);
        x.wall(1, 0);
        x.wall(7, 0);
        due("with both open", x.flow(), 2);
        due("sources then", x.count(3), 2);
        due("targets then", x.count(4), 2);
        x.role(1, 2);
        due("one has changed sides: sources", x.count(3), 1);
        due("one has changed sides: targets", x.count(4), 3);
        due("one has changed sides: the flow", x.flow(), 1);
    }

    private static void flow() {
        DOC.says("The flow is the greatest number of free routes, each from a source to a target, of which no two have a cell in common.");
        String[] texts = {"../..", "st/..", "tst/###", "sts/###", "#s#/s.t/#t#", ".s./s.t/.t.", "s.t/s.t/s.t", "s.t/###/s.t", "s.s/#.#/t.t",
            "stst/tsts", "s#t/.#./s#t", "sss/.#./ttt", "s..../.###./...#./.#.../.##.t"};
        int[] flows = {0, 1, 1, 1, 1, 2, 3, 2, 1, 4, 0, 2, 1};
        for (int index = 0; index < texts.length; index++) {
            due("the flow of " + texts[index], Texts.grid(texts[index]).flow(), flows[index]);
        }
        for (int seed = 0; seed < 300; seed++) {
            String text = smallText(seed, "....#sstt");
            RouteProofs x = Texts.grid(text);
            due("the flow of " + text, x.flow(), mostRoutes(x, with(x, 1), with(x, 2), with(x, -1)));
        }
    }

    /** Tries a route from the lowest source in all ways, or none. */
    private static int mostRoutes(RouteProofs x, int sources, int targets, int open) {
        int from = sources & open;
        if (from == 0 || (reached(x, from, open) & targets) == 0) {
            return 0;
        }
        int source = Integer.numberOfTrailingZeros(from);
        // Without a route that starts there: the cell can still be one of another route.
        int best = mostRoutes(x, sources & ~(1 << source), targets, open);
        return bestOnward(x, source, sources, targets, open, best);
    }

    private static int bestOnward(RouteProofs x, int cell, int sources, int targets, int open, int bestSoFar) {
        int width = x.count(0);
        int cells = width * x.count(1);
        if (cell < 0 || cell >= cells || (open >> cell & 1) == 0) {
            return bestSoFar;
        }
        int left = open & ~(1 << cell);
        int best = bestSoFar;
        if ((targets >> cell & 1) == 1) {
            return Math.max(best, 1 + mostRoutes(x, sources, targets, left));
        }
        best = cell % width > 0 ? bestOnward(x, cell - 1, sources, targets, left, best) : best;
        best = cell % width < width - 1 ? bestOnward(x, cell + 1, sources, targets, left, best) : best;
        best = bestOnward(x, cell - width, sources, targets, left, best);
        return bestOnward(x, cell + width, sources, targets, left, best);
    }

    private static void furtherSources() {
        DOC.says("(A route may go through further sources and targets.)");
        RouteProofs x = Texts.grid("sstt/####");
        due("one behind the other", x.flow(), 1);
        Edges.go(x, 0, 0, 1, 2, 3);
        due("a route through all", x.about(0, 2), 1);
        due("as a proof", x.check(1, 1), 1);
        RouteProofs back = Texts.grid("stst/####");
        Edges.go(back, 3, 0, 1, 2, 3);
        due("through a target and a source", back.about(3, 2), 1);
        due("as a proof", back.check(8, 1), 1);
        due("but there is room for two", back.flow(), 2);
        due("a far source needs one before it", Texts.grid("ss.#/##t#").flow(), 1);
    }

    private static void passes() {
        DOC.says("A pass is a set of open cells such that each free route from a source to a target contains one of them.");
        for (int seed = 0; seed < 200; seed++) {
            String text = smallText(seed, "......##ssttSTm");
            for (int far = 0; far < 2; far++) {
                RouteProofs x = Texts.grid(text);
                int pass = answeredPass(x, far);
                due("open cells alone, pass " + far + " of " + text, pass & ~with(x, -1), 0);
                int open = with(x, -1) & ~pass;
                due("nothing comes through, pass " + far + " of " + text, reached(x, with(x, 1), open) & with(x, 2), 0);
                for (int cell = 0; cell < x.count(0) * x.count(1); cell++) {
                    due("cell(" + cell + ", " + (5 + far) + ") of " + text, x.cell(cell, 5 + far), pass >> cell & 1);
                }
            }
        }
    }

    private static void smallestPasses() {
        DOC.says("The smallest passes have as many cells as the flow tells.");
        for (int seed = 0; seed < 200; seed++) {
            String text = smallText(seed, "....#sstt");
            RouteProofs x = Texts.grid(text);
            int fewest = Integer.bitCount(smallestPassesOf(x, with(x, 1), with(x, 2)).get(0));
            due("the flow of " + text, x.flow(), fewest);
            due("the near pass of " + text, Integer.bitCount(answeredPass(x, 0)), fewest);
            due("the far pass of " + text, Integer.bitCount(answeredPass(x, 1)), fewest);
        }
        Random random = new Random(7);
        for (int round = 0; round < 60; round++) {
            RouteProofs x = Edges.sized(8, 8);
            for (int cell = 0; cell < 64; cell++) {
                x.role(cell, random.nextInt(8) == 0 ? 1 + random.nextInt(2) : 0);
                x.wall(cell, random.nextInt(4) == 0 ? 1 : 0);
            }
            int flow = x.flow();
            for (int far = 0; far < 2; far++) {
                due("the last one, round " + round, flow == 0 ? 0 : x.pass(far, flow - 1) / 64, 0);
                due("one more, round " + round, x.pass(far, flow), NONE);
            }
        }
    }

    private static void nearSides() {
        DOC.says("For a smallest pass, its near side is the set of the cells that can be reached from sources by free routes without a cell of"
            + " the pass.");
        duePasses("s.#.t/s...t/s.#.t", 1 << 6, 1 << 8);
        duePasses("s...t/#####", 1, 1 << 4);
        duePasses("ss..tt/######", 1 << 1, 1 << 4);
        duePasses("s.t/..t/stt", 1 | 1 << 6, 1 | 1 << 6);
        duePasses("s#t/s#t", 0, 0);
        duePasses("s.../.s../..t./...t", 1 | 1 << 5, 1 << 10 | 1 << 15);
    }

    private static void duePasses(String text, int near, int far) {
        due("the near pass of " + text, answeredPass(Texts.grid(text), 0), near);
        due("the far pass of " + text, answeredPass(Texts.grid(text), 1), far);
    }

    private static void nearAndFar() {
        DOC.says("Of all smallest passes the near one is the one whose near side is a part of the near sides of all others.");
        int several = 0;
        for (int seed = 0; seed < 400; seed++) {
            String text = partedText(seed);
            RouteProofs x = Texts.grid(text);
            List<Integer> passes = smallestPassesOf(x, with(x, 1), with(x, 2));
            several += passes.size() > 2 ? 1 : 0;
            due("the near pass of " + text, answeredPass(x, 0), nearestOf(x, passes, with(x, 1)));
        }
        due("grids with more than two of them", several > 50 ? 1 : 0, 1);
        DOC.says("The far one is likewise the near one if sources and targets were exchanged.");
        for (int seed = 0; seed < 400; seed++) {
            String text = partedText(seed + 400);
            RouteProofs x = Texts.grid(text);
            List<Integer> passes = smallestPassesOf(x, with(x, 1), with(x, 2));
            due("the far pass of " + text, answeredPass(x, 1), nearestOf(x, passes, with(x, 2)));
            RouteProofs exchanged = Texts.grid(text.replace('s', '!').replace('t', 's').replace('!', 't'));
            due("the near pass with s and t exchanged of " + text, answeredPass(exchanged, 0), answeredPass(x, 1));
            due("the far pass with s and t exchanged of " + text, answeredPass(exchanged, 1), answeredPass(x, 0));
        }
    }

    // ---- covering

    /** The marked cells of each falling route there is. */
    private static boolean[] coveredAtOnce(RouteProofs x) {
        boolean[] covered = new boolean[1 << x.count(0) * x.count(1)];
        int marked = with(x, 3);
        for (int cell = 0; cell < x.count(0) * x.count(1); cell++) {
            addRoutes(x, cell, 0, marked, covered);
        }
        return covered;
    }

    private static void addRoutes(RouteProofs x, int cell, int before, int marked, boolean[] covered) {
        int width = x.count(0);
        if (cell >= width * x.count(1) || x.cell(cell, 0) == 1) {
            return;
        }
        int now = before | 1 << cell & marked;
        covered[now] = true;
        if (cell % width < width - 1) {
            addRoutes(x, cell + 1, now, marked, covered);
        }
        addRoutes(x, cell + width, now, marked, covered);
    }

    private static int fewestRoutes(RouteProofs x) {
        boolean[] covered = coveredAtOnce(x);
        int marked = with(x, 3);
        int[] fewest = new int[marked + 1];
        for (int set = 1; set <= marked; set++) {
            fewest[set] = 99;
            for (int part = set; part > 0 && (set & ~marked) == 0; part = part - 1 & set) {
                // A part of what a route covers will do as well: cells may be on several routes.
                if (isPartOfOne(covered, part, marked)) {
                    fewest[set] = Math.min(fewest[set], 1 + fewest[set & ~part]);
                }
            }
        }
        return fewest[marked];
    }

    private static boolean isPartOfOne(boolean[] covered, int part, int marked) {
        int others = marked & ~part;
        for (int more = others; ; more = more - 1 & others) {
            if (covered[part | more]) {
                return true;
            }
            if (more == 0) {
                return false;
            }
        }
    }

    private static void coverNumber() {
        DOC.says("The cover number is the least number of falling routes such that each open marked cell is on one of them (they may have"
            + " cells in common).");
        due("two that cross", Texts.grid("#m#/m.m/#m#").cover(), 2);
        due("three that cross", Texts.grid("##m#/#m.m/m.m#/#m##").cover(), 3);
        due("one for all", Texts.grid("mm#/#m#/#mm").cover(), 1);
        due("a wall between", Texts.grid("m#m/###/m#m").cover(), 4);
        due("none", Texts.grid("s.t/M.M").cover(), 0);
        for (int seed = 0; seed < 120; seed++) {
            String text = smallText(seed, seed % 2 == 0 ? "..##mmM" : "#.mmm");
            RouteProofs x = Texts.grid(text);
            due("the cover number of " + text, x.cover(), fewestRoutes(x));
        }
    }

    private static boolean isGroup(RouteProofs x, int set) {
        int cells = x.count(0) * x.count(1);
        for (int a = 0; a < cells; a++) {
            for (int b = a + 1; b < cells; b++) {
                if ((set >> a & 1) == 1 && (set >> b & 1) == 1 && x.falling(a, b) > 0) {
                    return false;
                }
            }
        }
        return true;
    }

    private static List<Integer> greatestGroupsOf(RouteProofs x) {
        int marked = with(x, 3);
        List<Integer> groups = new ArrayList<>();
        int most = 0;
        for (int set = marked; set >= 0; set = set == 0 ? -1 : set - 1 & marked) {
            int size = Integer.bitCount(set);
            if (size >= most && isGroup(x, set)) {
                if (size > most) {
                    groups.clear();
                }
                most = size;
                groups.add(set);
            }
        }
        return groups;
    }

    private static int answeredGroup(RouteProofs x) {
        int set = 0;
        for (int index = 0; index < 64 && x.group(index) != NONE; index++) {
            set |= 1 << x.group(index);
        }
        return set;
    }

    private static void groups() {
        DOC.says("A group is a set of open marked cells of which none lies behind another one.");
        for (int seed = 0; seed < 200; seed++) {
            String text = smallText(seed, "..#mmmMst");
            RouteProofs x = Texts.grid(text);
            int group = answeredGroup(x);
            due("open marked cells alone, of " + text, group & ~with(x, 3), 0);
            due("none behind another one, of " + text, isGroup(x, group) ? 1 : 0, 1);
        }
        due("a wall between", Texts.grid("m#m/...").group(1), 2);
        due("above and at the right, but not behind", Texts.grid(".m/m.").group(1), 2);
        due("behind over a cell that is not marked", Texts.grid("m./.m").group(1), NONE);
    }

    private static void greatestGroups() {
        DOC.says("The greatest groups have as many cells as the cover number tells.");
        for (int seed = 0; seed < 200; seed++) {
            String text = smallText(seed, "..#mmm");
            RouteProofs x = Texts.grid(text);
            List<Integer> groups = greatestGroupsOf(x);
            due("the cover number of " + text, x.cover(), Integer.bitCount(groups.get(0)));
            due("the first group of " + text, Integer.bitCount(answeredGroup(x)), x.cover());
            int some = 0;
            for (int group : groups) {
                some |= group;
            }
            for (int cell = 0; cell < x.count(0) * x.count(1); cell++) {
                due("cell(" + cell + ", 8) of " + text, x.cell(cell, 8), some >> cell & 1);
            }
        }
    }

    private static void firstGroup() {
        DOC.says("The first group is the greatest group that is lexicographically smallest by the numbers of its cells in ascending order.");
        due("of four greatest ones", answeredGroup(Texts.grid("m#m/m#m")), 1 | 1 << 2);
        due("of one", answeredGroup(Texts.grid("mmm/mmm/mmm")), 1 << 2 | 1 << 4 | 1 << 6);
        due("greater ones before lower cells", answeredGroup(Texts.grid("mm/m.")), 1 << 1 | 1 << 2);
        int several = 0;
        for (int seed = 0; seed < 400; seed++) {
            String text = smallText(seed, "...##mmm");
            RouteProofs x = Texts.grid(text);
            List<Integer> groups = greatestGroupsOf(x);
            int first = groups.get(0);
            for (int group : groups) {
                // Of sets of the same size the one with the lowest cell that is not in both comes first.
                int differing = group ^ first;
                first = (group & differing & -differing) != 0 ? group : first;
            }
            several += groups.size() > 2 ? 1 : 0;
            due("the first group of " + text, answeredGroup(x), first);
            for (int cell = 0; cell < x.count(0) * x.count(1); cell++) {
                due("cell(" + cell + ", 7) of " + text, x.cell(cell, 7), first >> cell & 1);
            }
        }
        due("grids with more than two of them", several > 50 ? 1 : 0, 1);
    }
}
