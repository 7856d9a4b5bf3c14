import java.util.ArrayDeque;
import java.util.ArrayList;
import java.util.Arrays;
import java.util.Collections;
import java.util.HashMap;
import java.util.HashSet;
import java.util.List;
import java.util.Map;
import java.util.Set;
import java.util.TreeSet;
import java.util.regex.Matcher;
import java.util.regex.Pattern;

/**
 * The document in its plainest form, to compare with: sets are collections, and what is greatest, least or
 * first is found by trying all there are on small grids ("small"), by other ways than the class's on large ones.
 */
final class PlainModel {
    private static final int NO_SUCH = -1, BAD_VALUE = -2, BAD_TEXT = -3, TOO_MANY = -4, NOT_POSSIBLE = -5, NONE = -6;
    private static final long GONE = -1000000000000000000L;
    private static final String SIGNS = "[.#sStTmM]";
    private static final double MOST_TUPLES_TO_TRY = 3e5;

    private static final class State {
        int width = 6;
        int height = 6;
        boolean[] wall = new boolean[36];
        int[] role = new int[36];
        List<Set<Integer>> wires = new ArrayList<>();
        List<int[]> pairs = new ArrayList<>();
        List<List<Integer>> slots = new ArrayList<>();

        State(int width, int height) {
            this.width = width;
            this.height = height;
            wall = new boolean[width * height];
            role = new int[width * height];
            for (int lever = 0; lever < 4; lever++) {
                wires.add(new TreeSet<>());
            }
            for (int slot = 0; slot < 5; slot++) {
                slots.add(new ArrayList<>());
            }
        }

        State copy() {
            State copy = new State(width, height);
            copy.wall = wall.clone();
            copy.role = role.clone();
            for (int lever = 0; lever < 4; lever++) {
                copy.wires.get(lever).addAll(wires.get(lever));
            }
            for (int slot = 0; slot < 5; slot++) {
                copy.slots.get(slot).addAll(slots.get(slot));
            }
            copy.pairs.addAll(pairs);
            return copy;
        }
    }

    private State s = new State(6, 6);
    private final State[] places = new State[2];
    private final StringBuilder pad = new StringBuilder();

    int cells() {
        return s.width * s.height;
    }

    // ---- what all need

    private boolean has(int cell) {
        return cell >= 0 && cell < cells();
    }

    private boolean adjacent(int a, int b) {
        int dx = Math.abs(a % s.width - b % s.width);
        int dy = Math.abs(a / s.width - b / s.width);
        return dx + dy == 1;
    }

    private boolean fallsTo(int a, int b) {
        return adjacent(a, b) && b > a;
    }

    private int walls() {
        int walls = 0;
        for (boolean wall : s.wall) {
            walls += wall ? 1 : 0;
        }
        return walls;
    }

    private List<Integer> openWith(int role) {
        List<Integer> found = new ArrayList<>();
        for (int cell = 0; cell < cells(); cell++) {
            if (!s.wall[cell] && s.role[cell] == role) {
                found.add(cell);
            }
        }
        return found;
    }

    /** Cells reached from the open ones of some by free routes outside of a set. */
    private Set<Integer> reached(List<Integer> from, Set<Integer> without) {
        Set<Integer> seen = new TreeSet<>();
        ArrayDeque<Integer> queue = new ArrayDeque<>();
        for (int cell : from) {
            if (!s.wall[cell] && !without.contains(cell) && seen.add(cell)) {
                queue.add(cell);
            }
        }
        while (!queue.isEmpty()) {
            int cell = queue.remove();
            for (int next = 0; next < cells(); next++) {
                if (adjacent(cell, next) && !s.wall[next] && !without.contains(next) && seen.add(next)) {
                    queue.add(next);
                }
            }
        }
        return seen;
    }

    // ---- the grid

    int setUp(int width, int height) {
        if (width < 2 || width > 8 || height < 2 || height > 8) {
            return BAD_VALUE;
        }
        s = new State(width, height);
        return cells();
    }

    int wall(int cell, int on) {
        if (!has(cell)) {
            return NO_SUCH;
        }
        if (on != 0 && on != 1) {
            return BAD_VALUE;
        }
        s.wall[cell] = on == 1;
        return walls();
    }

    int role(int cell, int role) {
        if (!has(cell)) {
            return NO_SUCH;
        }
        if (role < 0 || role > 3) {
            return BAD_VALUE;
        }
        int previous = s.role[cell];
        s.role[cell] = role;
        return previous;
    }

    int wire(int lever, int cell) {
        if (lever < 0 || lever > 3 || !has(cell)) {
            return NO_SUCH;
        }
        Set<Integer> set = s.wires.get(lever);
        if (!set.remove(cell)) {
            set.add(cell);
        }
        return set.size();
    }

    int turn(int lever) {
        if (lever < 0 || lever > 3) {
            return NO_SUCH;
        }
        for (int cell : s.wires.get(lever)) {
            s.wall[cell] = !s.wall[cell];
        }
        return walls();
    }

    int cell(int cell, int what) {
        if (!has(cell)) {
            return NO_SUCH;
        }
        switch (what) {
            case 0: return s.wall[cell] ? 1 : 0;
            case 1: return s.role[cell];
            case 2: {
                int mask = 0;
                for (int lever = 0; lever < 4; lever++) {
                    mask += s.wires.get(lever).contains(cell) ? 1 << lever : 0;
                }
                return mask;
            }
            case 3: {
                int number = 0;
                for (int next = 0; next < cells(); next++) {
                    number += adjacent(cell, next) && !s.wall[next] ? 1 : 0;
                }
                return number;
            }
            case 4: {
                int number = 0;
                for (int next = 0; next < cells(); next++) {
                    number += liesBehind(cell, next) ? 1 : 0;
                }
                return number;
            }
            case 5: return smallestPass(false).contains(cell) ? 1 : 0;
            case 6: return smallestPass(true).contains(cell) ? 1 : 0;
            case 7: return firstGroup().contains(cell) ? 1 : 0;
            case 8: return inSomeGreatestGroup(cell) ? 1 : 0;
            default: return BAD_VALUE;
        }
    }

    // ---- texts

    int put(long characters) {
        StringBuilder text = new StringBuilder();
        boolean ended = false;
        for (int index = 0; index < 8; index++) {
            int code = (int) (characters >>> 8 * index) & 255;
            if (code == 0) {
                ended = true;
            } else if (ended || code < 33 || code > 126) {
                return BAD_VALUE;
            } else {
                text.insert(0, (char) code);
            }
        }
        if (text.length() == 0) {
            return BAD_VALUE;
        }
        if (pad.length() + text.length() > 80) {
            return TOO_MANY;
        }
        pad.append(text);
        return pad.length();
    }

    int wipe() {
        int length = pad.length();
        pad.setLength(0);
        return length;
    }

    /** Whether a text is a grid; or, for "begun", whether one can become of it. */
    private static boolean isGrid(String text, boolean begun) {
        for (int width = 2; width <= 8; width++) {
            String row = SIGNS + "{" + width + "}";
            Matcher matcher = Pattern.compile(row + "(/" + row + "){1,7}").matcher(text);
            if (matcher.matches() || begun && matcher.hitEnd()) {
                return true;
            }
        }
        return false;
    }

    int fault() {
        for (int index = 0; index < pad.length(); index++) {
            if (!isGrid(pad.substring(0, index + 1), true)) {
                return index;
            }
        }
        return isGrid(pad.toString(), false) ? NONE : pad.length();
    }

    int load() {
        if (fault() != NONE) {
            return BAD_TEXT;
        }
        String[] rows = pad.toString().split("/");
        s = new State(rows[0].length(), rows.length);
        for (int cell = 0; cell < cells(); cell++) {
            char sign = rows[cell / s.width].charAt(cell % s.width);
            s.wall[cell] = sign == '#' || Character.isUpperCase(sign);
            s.role[cell] = Math.max(0, "_stm".indexOf(Character.toLowerCase(sign)));
        }
        pad.setLength(0);
        return cells();
    }

    // ---- falling routes

    long falling(int from, int to) {
        if (!has(from) || !has(to)) {
            return GONE + NO_SUCH;
        }
        return countFalling(from, to);
    }

    private long countFalling(int from, int to) {
        long[] ways = new long[cells()];
        for (int cell = cells() - 1; cell >= 0; cell--) {
            if (s.wall[cell]) {
                continue;
            }
            ways[cell] = cell == to ? 1 : 0;
            for (int next = cell + 1; next < cells(); next++) {
                ways[cell] += fallsTo(cell, next) ? ways[next] : 0;
            }
        }
        return ways[from];
    }

    private boolean liesBehind(int a, int b) {
        return countFalling(a, b) > 0;
    }

    int pair(int start, int end) {
        if (!has(start) || !has(end)) {
            return NO_SUCH;
        }
        if (s.pairs.size() == 4) {
            return TOO_MANY;
        }
        s.pairs.add(new int[] {start, end});
        return s.pairs.size() - 1;
    }

    int unpair() {
        int number = s.pairs.size();
        s.pairs.clear();
        return number;
    }

    /** How many tuples there would be if they did not have to be disjoint. */
    private double tuplesToTry() {
        double product = 1;
        for (int[] pair : s.pairs) {
            product *= countFalling(pair[0], pair[1]);
        }
        return product;
    }

    /** By trying all routes if there are few; else row by row, which must be the same. */
    long tuples() {
        long byRows = tuplesByRows();
        if (tuplesToTry() > MOST_TUPLES_TO_TRY) {
            return byRows;
        }
        long tried = countTuples(0, new boolean[cells()]);
        if (tried != byRows) {
            throw new IllegalStateException("two numbers of tuples");
        }
        return tried;
    }

    /** Row by row: of each set of columns in which the routes come into a row, how many tuples do so. */
    private long tuplesByRows() {
        Map<List<Integer>, Long> coming = new HashMap<>();
        coming.put(Collections.nCopies(s.pairs.size(), 0), 1L);
        for (int row = 0; row < s.height; row++) {
            Map<List<Integer>, Long> leaving = new HashMap<>();
            for (Map.Entry<List<Integer>, Long> entry : coming.entrySet()) {
                crossRow(row, 0, new ArrayList<>(entry.getKey()), new HashSet<>(), entry.getValue(), leaving);
            }
            coming = leaving;
        }
        return coming.values().stream().mapToLong(Long::longValue).sum();
    }

    /** Leads one route after the other from the column where it comes into a row to each where it can leave it. */
    private void crossRow(int row, int index, List<Integer> columns, Set<Integer> taken, long ways, Map<List<Integer>, Long> leaving) {
        if (index == columns.size()) {
            leaving.merge(new ArrayList<>(columns), ways, Long::sum);
            return;
        }
        int start = s.pairs.get(index)[0];
        int end = s.pairs.get(index)[1];
        int startRow = start / s.width;
        int endRow = end / s.width;
        if (startRow > endRow) {
            return;
        }
        if (row < startRow || row > endRow) {
            crossRow(row, index + 1, columns, taken, ways, leaving);
            return;
        }
        int came = columns.get(index);
        int first = row == startRow ? start % s.width : came;
        Set<Integer> crossed = new HashSet<>(taken);
        for (int column = first; column < s.width && !s.wall[row * s.width + column] && crossed.add(column); column++) {
            if (row != endRow || column == end % s.width) {
                columns.set(index, row == endRow ? 0 : column);
                crossRow(row, index + 1, columns, crossed, ways, leaving);
            }
        }
        columns.set(index, came);
    }

    private long countTuples(int index, boolean[] taken) {
        if (index == s.pairs.size()) {
            return 1;
        }
        return continueTuple(index, s.pairs.get(index)[0], taken);
    }

    private long continueTuple(int index, int cell, boolean[] taken) {
        int end = s.pairs.get(index)[1];
        boolean lost = cell % s.width > end % s.width || cell / s.width > end / s.width;
        if (s.wall[cell] || taken[cell] || lost) {
            return 0;
        }
        taken[cell] = true;
        long sum = 0;
        if (cell == end) {
            sum = countTuples(index + 1, taken);
        } else {
            if (cell % s.width + 1 < s.width) {
                sum += continueTuple(index, cell + 1, taken);
            }
            if (cell + s.width < cells()) {
                sum += continueTuple(index, cell + s.width, taken);
            }
        }
        taken[cell] = false;
        return sum;
    }

    long determinant() {
        int size = s.pairs.size();
        long[][] matrix = new long[size][size];
        for (int row = 0; row < size; row++) {
            for (int column = 0; column < size; column++) {
                matrix[row][column] = countFalling(s.pairs.get(row)[0], s.pairs.get(column)[1]);
            }
        }
        return sumOverOrders(matrix, new ArrayList<>());
    }

    private static long sumOverOrders(long[][] matrix, List<Integer> order) {
        if (order.size() == matrix.length) {
            long product = 1;
            for (int row = 0; row < order.size(); row++) {
                product *= matrix[row][order.get(row)];
                for (int later = row + 1; later < order.size(); later++) {
                    product *= order.get(later) < order.get(row) ? -1 : 1;
                }
            }
            return product;
        }
        long sum = 0;
        for (int column = 0; column < matrix.length; column++) {
            if (!order.contains(column)) {
                order.add(column);
                sum += sumOverOrders(matrix, order);
                order.remove(order.size() - 1);
            }
        }
        return sum;
    }

    // ---- free routes

    int steps(int from, int to) {
        if (!has(from) || !has(to)) {
            return NO_SUCH;
        }
        return distance(from, to);
    }

    private int distance(int from, int to) {
        if (s.wall[from] || s.wall[to]) {
            return NONE;
        }
        int[] steps = new int[cells()];
        Arrays.fill(steps, 1000);
        steps[to] = 0;
        for (int round = 0; round < cells(); round++) {
            for (int a = 0; a < cells(); a++) {
                for (int b = 0; b < cells(); b++) {
                    if (adjacent(a, b) && !s.wall[a] && !s.wall[b]) {
                        steps[a] = Math.min(steps[a], steps[b] + 1);
                    }
                }
            }
        }
        return steps[from] == 1000 ? NONE : steps[from];
    }

    int shortest(int from, int to, int index) {
        if (!has(from) || !has(to)) {
            return NO_SUCH;
        }
        int distance = distance(from, to);
        if (distance == NONE || index < 0 || index > distance) {
            return NONE;
        }
        int cell = from;
        for (int step = 0; step < index; step++) {
            for (int next = 0; next < cells(); next++) {
                if (adjacent(cell, next) && !s.wall[next] && distance(next, to) == distance - step - 1) {
                    cell = next;
                    break;
                }
            }
        }
        return cell;
    }

    private boolean isSmall() {
        return cells() - walls() <= 13;
    }

    int flow() {
        return isSmall() ? allSmallestPasses(openWith(1), openWith(2)).get(0).size() : splitFlow(openWith(1), openWith(2), null);
    }

    /** All passes with the fewest cells, by trying all sets of open cells. */
    private List<Set<Integer>> allSmallestPasses(List<Integer> from, List<Integer> to) {
        List<Integer> open = new ArrayList<>();
        for (int cell = 0; cell < cells(); cell++) {
            if (!s.wall[cell]) {
                open.add(cell);
            }
        }
        List<Set<Integer>> found = new ArrayList<>();
        for (int size = 0; found.isEmpty(); size++) {
            for (int mask = 0; mask < 1 << open.size(); mask++) {
                if (Integer.bitCount(mask) != size) {
                    continue;
                }
                Set<Integer> set = new TreeSet<>();
                for (int index = 0; index < open.size(); index++) {
                    if ((mask >> index & 1) == 1) {
                        set.add(open.get(index));
                    }
                }
                if (Collections.disjoint(reached(from, set), to)) {
                    found.add(set);
                }
            }
        }
        return found;
    }

    private Set<Integer> smallestPass(boolean far) {
        List<Integer> from = openWith(far ? 2 : 1);
        List<Integer> to = openWith(far ? 1 : 2);
        if (!isSmall()) {
            Set<Integer> pass = new TreeSet<>();
            splitFlow(from, to, pass);
            return pass;
        }
        List<Set<Integer>> passes = allSmallestPasses(from, to);
        Set<Integer> nearest = null;
        for (Set<Integer> pass : passes) {
            boolean near = true;
            for (Set<Integer> other : passes) {
                near &= reached(from, other).containsAll(reached(from, pass));
            }
            if (near && nearest != null) {
                throw new IllegalStateException("two near passes");
            }
            nearest = near ? pass : nearest;
        }
        return nearest;
    }

    /** The flow by a matrix of room between entrances (2c) and exits (2c + 1); fills the pass if there is one. */
    private int splitFlow(List<Integer> from, List<Integer> to, Set<Integer> pass) {
        int nodes = 2 * cells() + 2;
        int first = nodes - 2;
        int last = nodes - 1;
        int[][] room = new int[nodes][nodes];
        for (int a = 0; a < cells(); a++) {
            if (s.wall[a]) {
                continue;
            }
            room[2 * a][2 * a + 1] = 1;
            for (int b = 0; b < cells(); b++) {
                if (adjacent(a, b) && !s.wall[b]) {
                    room[2 * a + 1][2 * b] = 99;
                }
            }
        }
        for (int cell : from) {
            room[first][2 * cell] = 99;
        }
        for (int cell : to) {
            room[2 * cell + 1][last] = 99;
        }
        int flow = 0;
        boolean[] seen = new boolean[nodes];
        while (push(room, first, last, seen)) {
            flow++;
            seen = new boolean[nodes];
        }
        for (int cell = 0; pass != null && cell < cells(); cell++) {
            if (seen[2 * cell] && !seen[2 * cell + 1]) {
                pass.add(cell);
            }
        }
        return flow;
    }

    private static boolean push(int[][] room, int node, int last, boolean[] seen) {
        if (node == last) {
            return true;
        }
        seen[node] = true;
        for (int next = 0; next < room.length; next++) {
            if (room[node][next] > 0 && !seen[next] && push(room, next, last, seen)) {
                room[node][next]--;
                room[next][node]++;
                return true;
            }
        }
        return false;
    }

    int pass(int far, int index) {
        if (far != 0 && far != 1) {
            return BAD_VALUE;
        }
        return nth(smallestPass(far == 1), index);
    }

    private static int nth(Set<Integer> set, int index) {
        List<Integer> sorted = new ArrayList<>(new TreeSet<>(set));
        return index >= 0 && index < sorted.size() ? sorted.get(index) : NONE;
    }

    int changed(int cell) {
        if (!has(cell)) {
            return NO_SUCH;
        }
        s.wall[cell] = !s.wall[cell];
        int flow = flow();
        s.wall[cell] = !s.wall[cell];
        return flow;
    }

    int bestTurns(int what) {
        if (what != 0 && what != 1) {
            return BAD_VALUE;
        }
        int[] flows = new int[16];
        int greatest = 0;
        for (int levers = 0; levers < 16; levers++) {
            turnAll(levers);
            flows[levers] = flow();
            turnAll(levers);
            greatest = Math.max(greatest, flows[levers]);
        }
        if (what == 1) {
            return greatest;
        }
        for (int number = 0; number <= 4; number++) {
            for (int levers = 0; levers < 16; levers++) {
                if (Integer.bitCount(levers) == number && flows[levers] == greatest) {
                    return levers;
                }
            }
        }
        throw new IllegalStateException("no best turns");
    }

    private void turnAll(int levers) {
        for (int lever = 0; lever < 4; lever++) {
            if ((levers >> lever & 1) == 1) {
                turn(lever);
            }
        }
    }

    // ---- covering

    int cover() {
        return coverOf(openWith(3));
    }

    /** The least number of falling routes for some cells: all groups of up to 12 cells, else chains. */
    private int coverOf(List<Integer> marked) {
        if (marked.size() <= 12) {
            return greatestGroups(marked).get(0).size();
        }
        int[] leader = new int[cells()];
        Arrays.fill(leader, -1);
        int joints = 0;
        boolean[][] behind = behindTable();
        for (int cell : marked) {
            joints += takesFollower(cell, marked, leader, new HashSet<>(), behind) ? 1 : 0;
        }
        return marked.size() - joints;
    }

    private boolean[][] behindTable() {
        boolean[][] behind = new boolean[cells()][cells()];
        for (int a = 0; a < cells(); a++) {
            for (int b = 0; b < cells(); b++) {
                behind[a][b] = a <= b && liesBehind(a, b);
            }
        }
        return behind;
    }

    private static boolean takesFollower(int cell, List<Integer> marked, int[] leader, Set<Integer> tried, boolean[][] behind) {
        for (int follower : marked) {
            if (follower == cell || !behind[cell][follower] || !tried.add(follower)) {
                continue;
            }
            if (leader[follower] < 0 || takesFollower(leader[follower], marked, leader, tried, behind)) {
                leader[follower] = cell;
                return true;
            }
        }
        return false;
    }

    /** All groups with the most cells, by trying all sets of marked cells. */
    private List<Set<Integer>> greatestGroups(List<Integer> marked) {
        boolean[][] behind = behindTable();
        List<Set<Integer>> found = new ArrayList<>();
        found.add(new TreeSet<>());
        for (int mask = 1; mask < 1 << marked.size(); mask++) {
            if (Integer.bitCount(mask) < found.get(0).size()) {
                continue;
            }
            Set<Integer> set = new TreeSet<>();
            for (int index = 0; index < marked.size(); index++) {
                if ((mask >> index & 1) == 1) {
                    set.add(marked.get(index));
                }
            }
            boolean group = true;
            for (int a : set) {
                for (int b : set) {
                    group &= a == b || !behind[a][b];
                }
            }
            if (group && set.size() > found.get(0).size()) {
                found.clear();
            }
            if (group) {
                found.add(set);
            }
        }
        return found;
    }

    private Set<Integer> firstGroup() {
        List<Integer> marked = openWith(3);
        if (marked.size() <= 12) {
            Set<Integer> first = null;
            for (Set<Integer> group : greatestGroups(marked)) {
                if (first == null || compare(new ArrayList<>(group), new ArrayList<>(first)) < 0) {
                    first = group;
                }
            }
            return first;
        }
        Set<Integer> group = new TreeSet<>();
        List<Integer> rest = marked;
        for (int cell : marked) {
            List<Integer> without = apartFrom(cell, rest);
            if (rest.contains(cell) && coverOf(without) + 1 == coverOf(rest)) {
                group.add(cell);
                rest = without;
            }
        }
        return group;
    }

    private static int compare(List<Integer> a, List<Integer> b) {
        for (int index = 0; index < Math.min(a.size(), b.size()); index++) {
            if (!a.get(index).equals(b.get(index))) {
                return a.get(index) - b.get(index);
            }
        }
        return a.size() - b.size();
    }

    private List<Integer> apartFrom(int cell, List<Integer> cells) {
        List<Integer> apart = new ArrayList<>();
        for (int other : cells) {
            if (!liesBehind(cell, other) && !liesBehind(other, cell)) {
                apart.add(other);
            }
        }
        return apart;
    }

    private boolean inSomeGreatestGroup(int cell) {
        List<Integer> marked = openWith(3);
        if (!marked.contains(cell)) {
            return false;
        }
        if (marked.size() > 12) {
            return coverOf(apartFrom(cell, marked)) + 1 == coverOf(marked);
        }
        for (Set<Integer> group : greatestGroups(marked)) {
            if (group.contains(cell)) {
                return true;
            }
        }
        return false;
    }

    int group(int index) {
        return nth(firstGroup(), index);
    }

    // ---- routes by hand

    private static boolean isSlot(int slot) {
        return slot >= 0 && slot < 5;
    }

    int step(int slot, int cell) {
        if (!isSlot(slot) || !has(cell)) {
            return NO_SUCH;
        }
        List<Integer> route = s.slots.get(slot);
        boolean far = !route.isEmpty() && !adjacent(route.get(route.size() - 1), cell);
        if (s.wall[cell] || route.contains(cell) || far) {
            return NOT_POSSIBLE;
        }
        route.add(cell);
        return route.size();
    }

    int back(int slot) {
        if (!isSlot(slot)) {
            return NO_SUCH;
        }
        List<Integer> route = s.slots.get(slot);
        if (route.isEmpty()) {
            return NOT_POSSIBLE;
        }
        route.remove(route.size() - 1);
        return route.size();
    }

    int route(int slot, int index) {
        if (!isSlot(slot)) {
            return NO_SUCH;
        }
        List<Integer> route = s.slots.get(slot);
        if (index == -1) {
            return route.size();
        }
        return index >= 0 && index < route.size() ? route.get(index) : NONE;
    }

    private boolean isValid(List<Integer> route) {
        return route.stream().noneMatch(cell -> s.wall[cell]);
    }

    private boolean joins(List<Integer> route) {
        return !route.isEmpty() && isValid(route)
            && s.role[route.get(0)] == 1 && s.role[route.get(route.size() - 1)] == 2;
    }

    int about(int slot, int what) {
        if (!isSlot(slot)) {
            return NO_SUCH;
        }
        List<Integer> route = s.slots.get(slot);
        switch (what) {
            case 0: return isValid(route) ? 1 : 0;
            case 1: {
                boolean falls = isValid(route);
                for (int index = 1; index < route.size(); index++) {
                    falls &= fallsTo(route.get(index - 1), route.get(index));
                }
                return falls ? 1 : 0;
            }
            case 2: return joins(route) ? 1 : 0;
            case 3: return (int) openWith(3).stream().filter(route::contains).count();
            case 4: {
                int mask = 0;
                for (int other = 0; other < 5; other++) {
                    mask += other != slot && !Collections.disjoint(route, s.slots.get(other)) ? 1 << other : 0;
                }
                return mask;
            }
            default: return BAD_VALUE;
        }
    }

    int meeting(int slot, int other) {
        if (!isSlot(slot) || !isSlot(other)) {
            return NO_SUCH;
        }
        if (slot == other) {
            return BAD_VALUE;
        }
        for (int cell : s.slots.get(Math.min(slot, other))) {
            if (s.slots.get(Math.max(slot, other)).contains(cell)) {
                return cell;
            }
        }
        return NONE;
    }

    int exchange(int slot, int other) {
        int meeting = meeting(slot, other);
        if (meeting == NONE) {
            return NOT_POSSIBLE;
        }
        if (meeting < 0) {
            return meeting;
        }
        List<Integer> one = s.slots.get(slot);
        List<Integer> two = s.slots.get(other);
        List<Integer> newOne = new ArrayList<>(one.subList(0, one.indexOf(meeting) + 1));
        List<Integer> newTwo = new ArrayList<>(two.subList(0, two.indexOf(meeting) + 1));
        newOne.addAll(two.subList(two.indexOf(meeting) + 1, two.size()));
        newTwo.addAll(one.subList(one.indexOf(meeting) + 1, one.size()));
        if (new HashSet<>(newOne).size() < newOne.size() || new HashSet<>(newTwo).size() < newTwo.size()) {
            return NOT_POSSIBLE;
        }
        s.slots.set(slot, newOne);
        s.slots.set(other, newTwo);
        return meeting;
    }

    int check(int slots, int what) {
        if (slots < 0 || slots > 31) {
            return NO_SUCH;
        }
        if (what != 0 && what != 1) {
            return BAD_VALUE;
        }
        List<List<Integer>> routes = new ArrayList<>();
        for (int slot = 0; slot < 5; slot++) {
            if ((slots >> slot & 1) == 1) {
                routes.add(s.slots.get(slot));
            }
        }
        if (what == 0) {
            return (int) openWith(3).stream().filter(cell -> routes.stream().noneMatch(route -> route.contains(cell))).count();
        }
        boolean proof = true;
        for (int a = 0; a < routes.size(); a++) {
            proof &= joins(routes.get(a));
            for (int b = 0; b < a; b++) {
                proof &= Collections.disjoint(routes.get(a), routes.get(b));
            }
        }
        return proof ? 1 : 0;
    }

    // ---- saving

    int count(int what) {
        switch (what) {
            case 0: return s.width;
            case 1: return s.height;
            case 2: return walls();
            case 3: return openWith(1).size();
            case 4: return openWith(2).size();
            case 5: return openWith(3).size();
            case 6: return s.pairs.size();
            case 7: {
                int mask = 0;
                for (int slot = 0; slot < 5; slot++) {
                    mask += s.slots.get(slot).isEmpty() ? 0 : 1 << slot;
                }
                return mask;
            }
            case 8: return pad.length();
            default: return BAD_VALUE;
        }
    }

    int save(int place) {
        if (place != 0 && place != 1) {
            return BAD_VALUE;
        }
        places[place] = s.copy();
        return walls();
    }

    int restore(int place) {
        if (place != 0 && place != 1) {
            return BAD_VALUE;
        }
        if (places[place] == null) {
            return NOT_POSSIBLE;
        }
        s = places[place].copy();
        return walls();
    }
}
