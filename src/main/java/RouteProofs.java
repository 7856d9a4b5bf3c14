/**
 * Routes on a grid with walls that must not meet.
 *
 * A set of cells is a long throughout: the cell with the number c is the bit c, so that a whole set
 * moves by one shift and no call has to make an object.
 */
public final class RouteProofs {
    public static final int NO_SUCH = -1, BAD_VALUE = -2, BAD_TEXT = -3, TOO_MANY = -4, NOT_POSSIBLE = -5, NONE = -6;
    public static final long GONE = -1000000000000000000L;
    public static final int NOTHING = 0, SOURCE = 1, TARGET = 2, MARKED = 3;

    private static final int LEAST_SIDE = 2, MOST_SIDE = 8, FIRST_SIDE = 6;
    private static final int MOST_CELLS = 64;
    private static final int ROLES = 4, LEVERS = 4, PAIRS = 4, SLOTS = 5, PLACES = 2;

    private final Board board = new Board();
    private final Board[] places = new Board[] {new Board(), new Board()};
    private final boolean[] filled = new boolean[PLACES];
    private final Pad pad = new Pad();
    private final Descent descent = new Descent();
    private final Walk walk = new Walk();
    private final Stream stream = new Stream();
    private final Chains chains = new Chains();
    private final Route spare = new Route();
    // Its rows are by far the largest, and most objects never need them: made by the first call that does.
    private Bundle bundle = null;

    public RouteProofs() {
        board.begin(FIRST_SIDE, FIRST_SIDE);
    }

    // ---- the grid

    public int setUp(int width, int height) {
        if (!isSide(width) || !isSide(height)) {
            return BAD_VALUE;
        }
        board.begin(width, height);
        return board.grid.size();
    }

    public int wall(int cell, int on) {
        Grid grid = board.grid;
        if (!grid.has(cell)) {
            return NO_SUCH;
        }
        if (!isFlag(on)) {
            return BAD_VALUE;
        }
        grid.walls = on == 1 ? grid.walls | bit(cell) : grid.walls & ~bit(cell);
        return size(grid.walls);
    }

    public int role(int cell, int role) {
        Grid grid = board.grid;
        if (!grid.has(cell)) {
            return NO_SUCH;
        }
        if (role < 0 || role >= ROLES) {
            return BAD_VALUE;
        }
        int previous = grid.roleOf(cell);
        grid.give(cell, role);
        return previous;
    }

    public int wire(int lever, int cell) {
        Grid grid = board.grid;
        if (!isLever(lever) || !grid.has(cell)) {
            return NO_SUCH;
        }
        grid.wires[lever] ^= bit(cell);
        return size(grid.wires[lever]);
    }

    public int turn(int lever) {
        if (!isLever(lever)) {
            return NO_SUCH;
        }
        board.grid.walls ^= board.grid.wires[lever];
        return size(board.grid.walls);
    }

    public int cell(int cell, int what) {
        Grid grid = board.grid;
        if (!grid.has(cell)) {
            return NO_SUCH;
        }
        switch (what) {
            case 0: return flag(holds(grid.walls, cell));
            case 1: return grid.roleOf(cell);
            case 2: return grid.leversOf(cell);
            case 3: return size(grid.around(bit(cell)) & grid.open());
            case 4: return size(grid.behind(cell));
            case 5: return flag(holds(smallestPass(false), cell));
            case 6: return flag(holds(smallestPass(true), cell));
            case 7: return flag(holds(firstGroup(), cell));
            case 8: return flag(isInSomeGreatestGroup(cell));
            default: return BAD_VALUE;
        }
    }

    // ---- texts

    public int put(long characters) {
        int length = Pad.lengthOf(characters);
        if (length == 0) {
            return BAD_VALUE;
        }
        if (!pad.hasSpaceFor(length)) {
            return TOO_MANY;
        }
        pad.append(characters, length);
        return pad.length;
    }

    public int wipe() {
        int length = pad.length;
        pad.length = 0;
        return length;
    }

    public int fault() {
        return pad.firstFault();
    }

    public int load() {
        if (pad.firstFault() != NONE) {
            return BAD_TEXT;
        }
        board.begin(pad.gridWidth(), pad.gridHeight());
        pad.fill(board.grid);
        pad.length = 0;
        return board.grid.size();
    }

    // ---- falling routes

    public long falling(int from, int to) {
        if (!board.grid.has(from) || !board.grid.has(to)) {
            return GONE + NO_SUCH;
        }
        descent.spread(board.grid, from);
        return descent.waysTo(to);
    }

    public int pair(int start, int end) {
        if (!board.grid.has(start) || !board.grid.has(end)) {
            return NO_SUCH;
        }
        return board.addPair(start, end) ? board.pairs - 1 : TOO_MANY;
    }

    public int unpair() {
        int dropped = board.pairs;
        board.pairs = 0;
        return dropped;
    }

    public long tuples() {
        if (board.pairs == 0) {
            return 1;
        }
        if (bundle == null) {
            bundle = new Bundle();
        }
        return bundle.tally(board);
    }

    public long determinant() {
        return descent.signedTally(board);
    }

    // ---- free routes

    public int steps(int from, int to) {
        if (!board.grid.has(from) || !board.grid.has(to)) {
            return NO_SUCH;
        }
        return walk.measure(board.grid, from, to);
    }

    public int shortest(int from, int to, int index) {
        if (!board.grid.has(from) || !board.grid.has(to)) {
            return NO_SUCH;
        }
        int distance = walk.measure(board.grid, from, to);
        if (distance == NONE || index < 0 || index > distance) {
            return NONE;
        }
        return walk.follow(board.grid, from, distance, index);
    }

    public int flow() {
        return stream.widen(board.grid, board.grid.walls, false);
    }

    public int pass(int far, int index) {
        if (!isFlag(far)) {
            return BAD_VALUE;
        }
        return member(smallestPass(far == 1), index);
    }

    public int changed(int cell) {
        if (!board.grid.has(cell)) {
            return NO_SUCH;
        }
        return stream.widen(board.grid, board.grid.walls ^ bit(cell), false);
    }

    public int bestTurns(int what) {
        if (!isFlag(what)) {
            return BAD_VALUE;
        }
        int best = 0;
        int bestFlow = -1;
        for (int levers = 0; levers < 1 << LEVERS; levers++) {
            int flow = stream.widen(board.grid, board.grid.wallsTurned(levers), false);
            boolean fewer = Integer.bitCount(levers) < Integer.bitCount(best);
            if (flow > bestFlow || flow == bestFlow && fewer) {
                best = levers;
                bestFlow = flow;
            }
        }
        return what == 0 ? best : bestFlow;
    }

    // ---- covering

    public int cover() {
        return chains.join(board.grid, board.grid.openWith(MARKED));
    }

    public int group(int index) {
        return member(firstGroup(), index);
    }

    // ---- routes by hand

    public int step(int slot, int cell) {
        if (!isSlot(slot) || !board.grid.has(cell)) {
            return NO_SUCH;
        }
        Route route = board.routes[slot];
        boolean free = holds(board.grid.open(), cell) && !holds(route.on, cell);
        boolean follows = route.length == 0 || holds(board.grid.around(bit(route.last())), cell);
        if (!free || !follows) {
            return NOT_POSSIBLE;
        }
        route.append(cell);
        return route.length;
    }

    public int back(int slot) {
        if (!isSlot(slot)) {
            return NO_SUCH;
        }
        Route route = board.routes[slot];
        if (route.length == 0) {
            return NOT_POSSIBLE;
        }
        route.keep(route.length - 1);
        return route.length;
    }

    public int route(int slot, int index) {
        if (!isSlot(slot)) {
            return NO_SUCH;
        }
        Route route = board.routes[slot];
        return index == -1 ? route.length : route.at(index);
    }

    public int about(int slot, int what) {
        if (!isSlot(slot)) {
            return NO_SUCH;
        }
        Route route = board.routes[slot];
        switch (what) {
            case 0: return flag(isValid(route));
            case 1: return flag(isValid(route) && route.onlyRises());
            case 2: return flag(isProof(route));
            case 3: return size(route.on & board.grid.openWith(MARKED));
            case 4: return slotsMet(slot);
            default: return BAD_VALUE;
        }
    }

    public int meeting(int slot, int other) {
        if (!isSlot(slot) || !isSlot(other)) {
            return NO_SUCH;
        }
        if (slot == other) {
            return BAD_VALUE;
        }
        return meetingOf(slot, other);
    }

    public int exchange(int slot, int other) {
        if (!isSlot(slot) || !isSlot(other)) {
            return NO_SUCH;
        }
        if (slot == other) {
            return BAD_VALUE;
        }
        int meeting = meetingOf(slot, other);
        if (meeting == NONE) {
            return NOT_POSSIBLE;
        }
        return swapTails(board.routes[slot], board.routes[other], meeting) ? meeting : NOT_POSSIBLE;
    }

    public int check(int slots, int what) {
        if (slots < 0 || slots >= 1 << SLOTS) {
            return NO_SUCH;
        }
        if (!isFlag(what)) {
            return BAD_VALUE;
        }
        return what == 0 ? size(board.grid.openWith(MARKED) & ~cellsOn(slots)) : flag(areProof(slots));
    }

    // ---- saving

    public int count(int what) {
        switch (what) {
            case 0: return board.grid.width;
            case 1: return board.grid.height;
            case 2: return size(board.grid.walls);
            case 3: return size(board.grid.openWith(SOURCE));
            case 4: return size(board.grid.openWith(TARGET));
            case 5: return size(board.grid.openWith(MARKED));
            case 6: return board.pairs;
            case 7: return board.slotsInUse();
            case 8: return pad.length;
            default: return BAD_VALUE;
        }
    }

    public int save(int place) {
        if (!isPlace(place)) {
            return BAD_VALUE;
        }
        places[place].copyFrom(board);
        filled[place] = true;
        return size(board.grid.walls);
    }

    public int restore(int place) {
        if (!isPlace(place)) {
            return BAD_VALUE;
        }
        if (!filled[place]) {
            return NOT_POSSIBLE;
        }
        board.copyFrom(places[place]);
        return size(board.grid.walls);
    }

    // ---- arguments and sets

    private static boolean isSide(int side) {
        return side >= LEAST_SIDE && side <= MOST_SIDE;
    }

    private static boolean isFlag(int value) {
        return value == 0 || value == 1;
    }

    private static boolean isLever(int lever) {
        return lever >= 0 && lever < LEVERS;
    }

    private static boolean isSlot(int slot) {
        return slot >= 0 && slot < SLOTS;
    }

    private static boolean isPlace(int place) {
        return place >= 0 && place < PLACES;
    }

    private static int flag(boolean value) {
        return value ? 1 : 0;
    }

    private static long bit(int cell) {
        return 1L << cell;
    }

    private static boolean holds(long set, int cell) {
        return (set & bit(cell)) != 0;
    }

    private static int size(long set) {
        return Long.bitCount(set);
    }

    /** The lowest cell of a set; 64, which is no cell, for the empty one. */
    private static int lowest(long set) {
        return Long.bitCount((set & -set) - 1);
    }

    /** The cell of a set with an index in ascending order. */
    private static int member(long set, int index) {
        if (index < 0 || index >= size(set)) {
            return NONE;
        }
        long rest = set;
        for (int dropped = 0; dropped < index; dropped++) {
            rest &= rest - 1;
        }
        return lowest(rest);
    }

    // ---- passes and groups

    private long smallestPass(boolean far) {
        stream.widen(board.grid, board.grid.walls, far);
        return stream.narrowest();
    }

    private long firstGroup() {
        chains.join(board.grid, board.grid.openWith(MARKED));
        return chains.lowestGroup();
    }

    private boolean isInSomeGreatestGroup(int cell) {
        long marked = board.grid.openWith(MARKED);
        if (!holds(marked, cell)) {
            return false;
        }
        long comparable = board.grid.behind(cell) | board.grid.ahead(cell);
        return chains.join(board.grid, marked & ~comparable) + 1 == chains.join(board.grid, marked);
    }

    // ---- routes in slots

    private boolean isValid(Route route) {
        return (route.on & board.grid.walls) == 0;
    }

    /** Whether a route proves a part of the flow: it goes over open cells from a source to a target. */
    private boolean isProof(Route route) {
        return route.length > 0 && isValid(route)
            && board.grid.roleOf(route.at(0)) == SOURCE
            && board.grid.roleOf(route.last()) == TARGET;
    }

    private boolean areProof(int slots) {
        long seen = 0;
        for (int slot = 0; slot < SLOTS; slot++) {
            if ((slots >> slot & 1) == 0) {
                continue;
            }
            Route route = board.routes[slot];
            if (!isProof(route) || (route.on & seen) != 0) {
                return false;
            }
            seen |= route.on;
        }
        return true;
    }

    private long cellsOn(int slots) {
        long cells = 0;
        for (int slot = 0; slot < SLOTS; slot++) {
            if ((slots >> slot & 1) == 1) {
                cells |= board.routes[slot].on;
            }
        }
        return cells;
    }

    private int slotsMet(int slot) {
        long on = board.routes[slot].on;
        int met = 0;
        for (int other = 0; other < SLOTS; other++) {
            if (other != slot && (board.routes[other].on & on) != 0) {
                met |= 1 << other;
            }
        }
        return met;
    }

    private int meetingOf(int slot, int other) {
        Route lower = board.routes[Math.min(slot, other)];
        Route upper = board.routes[Math.max(slot, other)];
        for (int index = 0; index < lower.length; index++) {
            if (holds(upper.on, lower.at(index))) {
                return lower.at(index);
            }
        }
        return NONE;
    }

    private boolean swapTails(Route one, Route two, int meeting) {
        int keptOfOne = one.indexOf(meeting) + 1;
        int keptOfTwo = two.indexOf(meeting) + 1;
        long headOfOne = one.firstCells(keptOfOne);
        long headOfTwo = two.firstCells(keptOfTwo);
        boolean twice = (headOfOne & two.on & ~headOfTwo) != 0 || (headOfTwo & one.on & ~headOfOne) != 0;
        if (twice) {
            return false;
        }
        spare.copyFrom(one);
        one.keep(keptOfOne);
        one.appendFrom(two, keptOfTwo);
        two.keep(keptOfTwo);
        two.appendFrom(spare, keptOfOne);
        return true;
    }

    /** The cells with their walls and roles, and the sets of the switches. */
    private static final class Grid {
        int width = 0;
        int height = 0;
        long cells = 0;
        // Cells that have one at their left, or right: a shift by one must not run into the next row.
        long notFirst = 0;
        long notLast = 0;
        long walls = 0;
        final long[] roles = new long[ROLES];
        final long[] wires = new long[LEVERS];

        void shape(int newWidth, int newHeight) {
            width = newWidth;
            height = newHeight;
            long firsts = 0;
            cells = 0;
            for (int y = 0; y < height; y++) {
                firsts |= bit(y * width);
            }
            for (int x = 0; x < width; x++) {
                cells |= firsts << x;
            }
            notFirst = cells & ~firsts;
            notLast = cells & ~(firsts << width - 1);
            walls = 0;
            for (int role = 0; role < ROLES; role++) {
                roles[role] = 0;
            }
            for (int lever = 0; lever < LEVERS; lever++) {
                wires[lever] = 0;
            }
        }

        int size() {
            return width * height;
        }

        boolean has(int cell) {
            return cell >= 0 && cell < width * height;
        }

        int rowOf(int cell) {
            return width > 0 ? cell / width : 0;
        }

        int diagonalOf(int cell) {
            int row = rowOf(cell);
            return cell - row * width + row;
        }

        long open() {
            return cells & ~walls;
        }

        long openWith(int role) {
            return role >= 0 && role < ROLES ? roles[role] & open() : 0;
        }

        int roleOf(int cell) {
            for (int role = 1; role < ROLES; role++) {
                if (holds(roles[role], cell)) {
                    return role;
                }
            }
            return NOTHING;
        }

        void give(int cell, int newRole) {
            for (int role = 1; role < ROLES; role++) {
                roles[role] &= ~bit(cell);
                if (role == newRole) {
                    roles[role] |= bit(cell);
                }
            }
        }

        int leversOf(int cell) {
            int levers = 0;
            for (int lever = 0; lever < LEVERS; lever++) {
                if (holds(wires[lever], cell)) {
                    levers |= 1 << lever;
                }
            }
            return levers;
        }

        long wallsTurned(int levers) {
            long turned = walls;
            for (int lever = 0; lever < LEVERS; lever++) {
                if ((levers >> lever & 1) == 1) {
                    turned ^= wires[lever];
                }
            }
            return turned;
        }

        long around(long set) {
            return fall(set) | rise(set);
        }

        long fall(long set) {
            return (set & notLast) << 1 | set << width & cells;
        }

        long rise(long set) {
            return (set & notFirst) >>> 1 | set >>> width;
        }

        /** The cells that lie behind a cell, itself too; none for a wall. */
        long behind(int cell) {
            return spread(cell, false);
        }

        /** The cells that a cell lies behind, itself too; none for a wall. */
        long ahead(int cell) {
            return spread(cell, true);
        }

        private long spread(int cell, boolean rising) {
            long open = open();
            long found = bit(cell) & open;
            for (int step = 0; step < 2 * MOST_SIDE; step++) {
                found |= (rising ? rise(found) : fall(found)) & open;
            }
            return found;
        }

        void copyFrom(Grid other) {
            width = other.width;
            height = other.height;
            cells = other.cells;
            notFirst = other.notFirst;
            notLast = other.notLast;
            walls = other.walls;
            System.arraycopy(other.roles, 0, roles, 0, ROLES);
            System.arraycopy(other.wires, 0, wires, 0, LEVERS);
        }
    }

    /** The route in a slot: its cells in their order, and as a set. */
    private static final class Route {
        final int[] cells = new int[MOST_CELLS];
        int length = 0;
        long on = 0;

        int at(int index) {
            return index >= 0 && index < length && index < MOST_CELLS ? cells[index] : NONE;
        }

        int last() {
            return at(length - 1);
        }

        int indexOf(int cell) {
            for (int index = 0; index < length; index++) {
                if (at(index) == cell) {
                    return index;
                }
            }
            return -1;
        }

        void append(int cell) {
            if (length >= 0 && length < MOST_CELLS) {
                cells[length] = cell;
                length++;
                on |= bit(cell);
            }
        }

        void appendFrom(Route other, int start) {
            for (int index = start; index < other.length; index++) {
                append(other.at(index));
            }
        }

        void keep(int kept) {
            on = firstCells(kept);
            length = kept;
        }

        long firstCells(int kept) {
            long set = 0;
            for (int index = 0; index < kept; index++) {
                set |= bit(at(index));
            }
            return set;
        }

        /** Whether the numbers rise: of the steps to adjacent cells just those to the right and down do. */
        boolean onlyRises() {
            for (int index = 1; index < length; index++) {
                if (at(index) < at(index - 1)) {
                    return false;
                }
            }
            return true;
        }

        void copyFrom(Route other) {
            System.arraycopy(other.cells, 0, cells, 0, MOST_CELLS);
            length = other.length;
            on = other.on;
        }
    }

    /** All that is saved and restored. */
    private static final class Board {
        final Grid grid = new Grid();
        final Route[] routes = new Route[] {new Route(), new Route(), new Route(), new Route(), new Route()};
        final int[] starts = new int[PAIRS];
        final int[] ends = new int[PAIRS];
        int pairs = 0;

        void begin(int width, int height) {
            grid.shape(width, height);
            pairs = 0;
            for (int slot = 0; slot < SLOTS; slot++) {
                routes[slot].keep(0);
            }
        }

        boolean addPair(int start, int end) {
            if (pairs < 0 || pairs >= PAIRS) {
                return false;
            }
            starts[pairs] = start;
            ends[pairs] = end;
            pairs++;
            return true;
        }

        int slotsInUse() {
            int slots = 0;
            for (int slot = 0; slot < SLOTS; slot++) {
                if (routes[slot].length > 0) {
                    slots |= 1 << slot;
                }
            }
            return slots;
        }

        void copyFrom(Board other) {
            grid.copyFrom(other.grid);
            System.arraycopy(other.starts, 0, starts, 0, PAIRS);
            System.arraycopy(other.ends, 0, ends, 0, PAIRS);
            pairs = other.pairs;
            for (int slot = 0; slot < SLOTS; slot++) {
                routes[slot].copyFrom(other.routes[slot]);
            }
        }
    }

    /** The text that a grid is read from. */
    private static final class Pad {
        private static final int MOST_CHARACTERS = 80, MOST_AT_ONCE = 8;
        private static final int FIRST_CODE = 33, LAST_CODE = 126;
        // A sign's index tells its cell: the role in steps of two, the odd ones being walls.
        private static final String CELLS = ".#sStTmM";

        final int[] codes = new int[MOST_CHARACTERS];
        int length = 0;

        /** How many characters a number means; 0 if it means none or is not well formed. */
        static int lengthOf(long characters) {
            long rest = characters;
            int number = 0;
            for (int read = 0; read < MOST_AT_ONCE && rest != 0; read++) {
                int code = (int) (rest & 255);
                if (code < FIRST_CODE || code > LAST_CODE) {
                    return 0;
                }
                rest >>>= 8;
                number++;
            }
            return number;
        }

        boolean hasSpaceFor(int number) {
            return length + number <= MOST_CHARACTERS;
        }

        void append(long characters, int number) {
            for (int left = number - 1; left >= 0; left--) {
                if (length >= 0 && length < MOST_CHARACTERS) {
                    codes[length] = (int) (characters >>> 8 * left & 255);
                    length++;
                }
            }
        }

        private int codeAt(int index) {
            return index >= 0 && index < length && index < MOST_CHARACTERS ? codes[index] : 0;
        }

        private int kindAt(int index) {
            return CELLS.indexOf((char) codeAt(index));
        }

        /** The number of signs before the first "/", or of all if there is none. */
        int gridWidth() {
            int width = 0;
            while (width < length && codeAt(width) != '/') {
                width++;
            }
            return width;
        }

        int gridHeight() {
            int rows = 1;
            for (int index = 0; index < length; index++) {
                if (codeAt(index) == '/') {
                    rows++;
                }
            }
            return rows;
        }

        int firstFault() {
            // The first row may grow to the greatest side; what it has then binds the rows below it.
            int width = MOST_SIDE;
            int rows = 1;
            int inRow = 0;
            for (int index = 0; index < length; index++) {
                if (codeAt(index) == '/') {
                    boolean rowEnds = rows == 1 ? inRow >= LEAST_SIDE : inRow == width;
                    if (!rowEnds || rows == MOST_SIDE) {
                        return index;
                    }
                    width = rows == 1 ? inRow : width;
                    rows++;
                    inRow = 0;
                } else {
                    if (kindAt(index) < 0 || inRow == width) {
                        return index;
                    }
                    inRow++;
                }
            }
            return rows < LEAST_SIDE || inRow < width ? length : NONE;
        }

        /** Gives the cells of a grid, which has the text's size, their walls and roles. */
        void fill(Grid grid) {
            int cell = 0;
            for (int index = 0; index < length; index++) {
                int kind = kindAt(index);
                if (kind < 0) {
                    continue;
                }
                grid.give(cell, kind >> 1);
                if ((kind & 1) == 1) {
                    grid.walls |= bit(cell);
                }
                cell++;
            }
        }
    }

    /** Counts falling routes, and the determinant of the pairs. */
    private static final class Descent {
        final long[] ways = new long[MOST_CELLS];
        final long[] matrix = new long[PAIRS * PAIRS];
        // By sets of columns: the determinant of as many first rows in these columns.
        final long[] minors = new long[1 << PAIRS];

        /** Counts the routes from a cell to each one. */
        void spread(Grid grid, int from) {
            int cells = Math.min(grid.size(), MOST_CELLS);
            long open = grid.open();
            for (int cell = 0; cell < cells; cell++) {
                long sum = cell == from ? 1 : 0;
                if (holds(grid.notFirst, cell)) {
                    sum += waysTo(cell - 1);
                }
                sum += waysTo(cell - grid.width);
                ways[cell] = holds(open, cell) ? sum : 0;
            }
        }

        long waysTo(int cell) {
            return cell >= 0 && cell < MOST_CELLS ? ways[cell] : 0;
        }

        long signedTally(Board board) {
            int pairs = Math.max(0, Math.min(board.pairs, PAIRS));
            for (int row = 0; row < pairs; row++) {
                spread(board.grid, board.starts[row]);
                for (int column = 0; column < pairs; column++) {
                    matrix[PAIRS * row + column] = waysTo(board.ends[column]);
                }
            }
            minors[0] = 1;
            int all = (1 << pairs) - 1;
            for (int columns = 1; columns <= all; columns++) {
                minors[columns] = minor(columns);
            }
            return minors[all];
        }

        /** Expands along the last of as many rows as there are columns. */
        private long minor(int columns) {
            int row = Integer.bitCount(columns) - 1;
            long sum = 0;
            for (int column = 0; column < PAIRS; column++) {
                if ((columns >> column & 1) == 0) {
                    continue;
                }
                long term = matrix[PAIRS * row + column] * minors[columns ^ 1 << column];
                boolean minus = (Integer.bitCount(columns >> column + 1) & 1) == 1;
                sum += minus ? -term : term;
            }
            return sum;
        }
    }

    /**
     * Counts disjoint tuples. The steps of a falling route go from one diagonal (x + y) to the next one, so
     * routes can only meet on a diagonal, and it is enough to know in which rows they are on the last one.
     */
    private static final class Bundle {
        final long[] allowed = new long[PAIRS];
        final int[] firstDiagonal = new int[PAIRS];
        final int[] lastDiagonal = new int[PAIRS];
        Tally now = new Tally();
        Tally then = new Tally();

        long tally(Board board) {
            int pairs = Math.max(0, Math.min(board.pairs, PAIRS));
            for (int pair = 0; pair < pairs; pair++) {
                prepare(board, pair);
                if (allowed[pair] == 0) {
                    return 0;
                }
            }
            now.empty();
            now.add(0, 1);
            int diagonals = board.grid.width + board.grid.height - 1;
            for (int diagonal = 0; diagonal < diagonals; diagonal++) {
                for (int pair = 0; pair < pairs; pair++) {
                    if (isOn(pair, diagonal)) {
                        advance(board, pair, diagonal);
                    } else if (isOn(pair, diagonal - 1)) {
                        forget(pair);
                    }
                }
            }
            return now.total();
        }

        private void prepare(Board board, int pair) {
            Grid grid = board.grid;
            int start = board.starts[pair];
            int end = board.ends[pair];
            allowed[pair] = grid.behind(start) & grid.ahead(end);
            firstDiagonal[pair] = grid.diagonalOf(start);
            lastDiagonal[pair] = grid.diagonalOf(end);
        }

        private boolean isOn(int pair, int diagonal) {
            return diagonal >= firstDiagonal[pair] && diagonal <= lastDiagonal[pair];
        }

        /** Brings the route of one pair to a diagonal; those of the pairs before it are there. */
        private void advance(Board board, int pair, int diagonal) {
            int open = rowsAllowed(board.grid, pair, diagonal);
            int present = presentBefore(pair, diagonal);
            boolean begins = diagonal == firstDiagonal[pair];
            int startRow = board.grid.rowOf(board.starts[pair]);
            then.empty();
            for (int index = 0; index < now.size; index++) {
                int rows = now.rowsAt(index);
                int row = begins ? startRow : rowIn(rows, pair);
                int free = open & ~rowsTaken(rows, present);
                if ((free >> row & 1) == 1) {
                    then.add(withRow(rows, pair, row), now.waysAt(index));
                }
                if ((free >> row + 1 & 1) == 1) {
                    then.add(withRow(rows, pair, row + 1), now.waysAt(index));
                }
            }
            exchangeTallies();
        }

        /** Leaves a route that has ended out of the account, so that what differs in it alone is added up. */
        private void forget(int pair) {
            then.empty();
            for (int index = 0; index < now.size; index++) {
                then.add(withRow(now.rowsAt(index), pair, 0), now.waysAt(index));
            }
            exchangeTallies();
        }

        private void exchangeTallies() {
            Tally filled = then;
            then = now;
            now = filled;
        }

        private int rowsAllowed(Grid grid, int pair, int diagonal) {
            int rows = 0;
            for (int row = 0; row < grid.height; row++) {
                int column = diagonal - row;
                boolean inside = column >= 0 && column < grid.width;
                if (inside && holds(allowed[pair], row * grid.width + column)) {
                    rows |= 1 << row;
                }
            }
            return rows;
        }

        private int presentBefore(int pair, int diagonal) {
            int present = 0;
            for (int other = 0; other < pair; other++) {
                if (isOn(other, diagonal)) {
                    present |= 1 << other;
                }
            }
            return present;
        }

        private static int rowsTaken(int rows, int present) {
            int taken = 0;
            for (int pair = 0; pair < PAIRS; pair++) {
                if ((present >> pair & 1) == 1) {
                    taken |= 1 << rowIn(rows, pair);
                }
            }
            return taken;
        }

        private static int rowIn(int rows, int pair) {
            return rows >> 3 * pair & 7;
        }

        private static int withRow(int rows, int pair, int row) {
            return rows & ~(7 << 3 * pair) | row << 3 * pair;
        }
    }

    /** In how many ways the routes can be in given rows. The rows of all pairs are one number, three bits each. */
    private static final class Tally {
        private static final int STATES = 1 << 3 * PAIRS;

        final long[] ways = new long[STATES];
        // Only the states that have been added, since they are few.
        final int[] states = new int[STATES];
        int size = 0;

        void empty() {
            for (int index = 0; index < size; index++) {
                ways[rowsAt(index)] = 0;
            }
            size = 0;
        }

        void add(int rows, long more) {
            if (rows < 0 || rows >= STATES) {
                return;
            }
            if (ways[rows] == 0 && size >= 0 && size < STATES) {
                states[size] = rows;
                size++;
            }
            ways[rows] += more;
        }

        int rowsAt(int index) {
            return index >= 0 && index < size && index < STATES ? states[index] & STATES - 1 : 0;
        }

        long waysAt(int index) {
            return ways[rowsAt(index)];
        }

        long total() {
            long sum = 0;
            for (int index = 0; index < size; index++) {
                sum += waysAt(index);
            }
            return sum;
        }
    }

    /** Shortest free routes: the cells in layers by their distance from the end. */
    private static final class Walk {
        final long[] layers = new long[MOST_CELLS];

        /** The number of steps, or NONE; the layers up to it are there then. */
        int measure(Grid grid, int from, int to) {
            long open = grid.open();
            long layer = bit(to) & open;
            long seen = layer;
            for (int distance = 0; distance < MOST_CELLS && layer != 0; distance++) {
                layers[distance] = layer;
                if (holds(layer, from)) {
                    return distance;
                }
                layer = grid.around(layer) & open & ~seen;
                seen |= layer;
            }
            return NONE;
        }

        /** The cell after so many steps, each to the lowest cell that is nearer to the end. */
        int follow(Grid grid, int from, int distance, int index) {
            long here = bit(from);
            int top = Math.min(distance, MOST_CELLS) - 1;
            for (int layer = top; layer >= 0 && layer >= distance - index; layer--) {
                long nearer = grid.around(here) & layers[layer];
                here = nearer & -nearer;
            }
            return lowest(here);
        }
    }

    /**
     * Greatest flow and smallest pass. Each cell is an entrance and an exit with room for one route between
     * them; a search goes by turns from entrances to exits and from exits to entrances, whole sets at once.
     */
    private static final class Stream {
        // The exits that a search first came to in each of its rounds; all rounds but the last have one, so 64 are enough.
        final long[] exits = new long[MOST_CELLS];
        long open = 0;
        long sources = 0;
        long targets = 0;
        long used = 0;
        // The used cells whose route goes on to this side.
        long right = 0;
        long left = 0;
        long down = 0;
        long up = 0;
        long entered = 0;
        long passed = 0;

        /** The flow with given walls; reversed, that from targets to sources. */
        int widen(Grid grid, long walls, boolean reversed) {
            open = grid.cells & ~walls;
            sources = grid.roles[reversed ? TARGET : SOURCE] & open;
            targets = grid.roles[reversed ? SOURCE : TARGET] & open;
            used = 0;
            cut(-1L);
            int found = 0;
            int end = search(grid);
            while (end >= 0 && found < MOST_CELLS) {
                addRoute(grid, end);
                found++;
                end = search(grid);
            }
            return found;
        }

        /** The pass nearest to the sources: the cells that the last search could enter, but not pass. */
        long narrowest() {
            return entered & ~passed;
        }

        /** Searches a way for one more route: the round in which it comes to a target, or -1. */
        private int search(Grid grid) {
            long entrances = sources;
            entered = sources;
            passed = 0;
            for (int round = 0; round < MOST_CELLS && entrances != 0; round++) {
                long fresh = (entrances & ~used | before(grid, entrances & used)) & ~passed;
                passed |= fresh;
                exits[round] = fresh;
                if ((fresh & targets) != 0) {
                    return round;
                }
                entrances = (grid.around(fresh) & open | fresh & used) & ~entered;
                entered |= entrances;
            }
            return -1;
        }

        /** The cells from which routes come into the cells of a set. */
        private long before(Grid grid, long set) {
            return (set & grid.notFirst) >>> 1 & right
                | (set & grid.notLast) << 1 & left
                | set >>> grid.width & down
                | set << grid.width & up;
        }

        /** The cell to which the route goes on from a cell. */
        private long after(Grid grid, long cell) {
            return (cell & right) << 1
                | (cell & left) >>> 1
                | (cell & down) << grid.width
                | (cell & up) >>> grid.width;
        }

        /**
         * Goes back from a target through the rounds of the search. Where the search went against a route,
         * that route loses the step, and its parts go on with those of the new one.
         */
        private void addRoute(Grid grid, int end) {
            if (end < 0 || end >= MOST_CELLS) {
                return;
            }
            long usedBefore = used;
            long exit = one(exits[end] & targets);
            long next = 0;
            for (int round = end; round >= 0; round--) {
                long entrance = exit;
                if ((exit & usedBefore) == 0) {
                    used |= exit;
                } else {
                    entrance = after(grid, exit);
                    cut(exit);
                }
                lead(grid, exit, next);
                long earlier = round > 0 ? exits[round - 1] : 0;
                if ((entrance & usedBefore & earlier) != 0) {
                    used &= ~entrance;
                    exit = entrance;
                    next = 0;
                } else {
                    exit = one(grid.around(entrance) & earlier);
                    next = entrance;
                }
            }
        }

        private static long one(long set) {
            return set & -set;
        }

        private void cut(long set) {
            right &= ~set;
            left &= ~set;
            down &= ~set;
            up &= ~set;
        }

        /** Leads the route at a cell on to an adjacent one; the empty set leads nowhere. */
        private void lead(Grid grid, long cell, long to) {
            right |= (to & grid.notFirst) >>> 1 & cell;
            left |= (to & grid.notLast) << 1 & cell;
            down |= to >>> grid.width & cell;
            up |= to << grid.width & cell;
        }
    }

    /**
     * Joins cells to as few chains as can be, in each of which every cell lies behind the one before. A
     * greatest group has one cell of each chain.
     */
    private static final class Chains {
        // The cells that the cell lies behind, itself too.
        final long[] ahead = new long[MOST_CELLS];
        final int[] leader = new int[MOST_CELLS];
        final int[] follower = new int[MOST_CELLS];
        final int[] queue = new int[MOST_CELLS];
        // By leaders: the cell of the search that would take the leader from its follower.
        final int[] seeker = new int[MOST_CELLS];
        long members = 0;
        // Members without a follower.
        long ends = 0;

        /** Joins the cells of a set; the number of chains. */
        int join(Grid grid, long set) {
            findAhead(grid);
            members = set;
            ends = set;
            int joints = 0;
            for (int cell = 0; cell < MOST_CELLS; cell++) {
                leader[cell] = NONE;
                follower[cell] = NONE;
            }
            for (int cell = 0; cell < MOST_CELLS; cell++) {
                if (holds(members, cell) && findLeader(cell)) {
                    joints++;
                }
            }
            return size(members) - joints;
        }

        private void findAhead(Grid grid) {
            int cells = Math.min(grid.size(), MOST_CELLS);
            long open = grid.open();
            for (int cell = 0; cell < cells; cell++) {
                long set = bit(cell);
                if (holds(grid.notFirst, cell)) {
                    set |= aheadOf(cell - 1);
                }
                set |= aheadOf(cell - grid.width);
                ahead[cell] = holds(open, cell) ? set : 0;
            }
        }

        private long aheadOf(int cell) {
            return cell >= 0 && cell < MOST_CELLS ? ahead[cell] : 0;
        }

        private static int linkIn(int[] links, int cell) {
            return cell >= 0 && cell < links.length ? links[cell] : NONE;
        }

        /** Searches a leader for a cell; other cells may have to change theirs for it. */
        private boolean findLeader(int cell) {
            long seen = 0;
            int length = 1;
            queue[0] = cell;
            for (int index = 0; index < length && index < MOST_CELLS; index++) {
                int seeking = queue[index];
                long fresh = aheadOf(seeking) & ~bit(seeking) & members & ~seen;
                if ((fresh & ends) != 0) {
                    relink(lowest(fresh & ends), seeking);
                    return true;
                }
                seen |= fresh;
                length = enqueueFollowers(fresh, seeking, length);
            }
            return false;
        }

        private int enqueueFollowers(long leaders, int seeking, int length) {
            int newLength = length;
            long rest = leaders;
            for (int turn = 0; turn < MOST_CELLS && rest != 0; turn++) {
                int cell = lowest(rest);
                rest &= rest - 1;
                if (cell < MOST_CELLS && follower[cell] != NONE && newLength < MOST_CELLS) {
                    seeker[cell] = seeking;
                    queue[newLength] = follower[cell];
                    newLength++;
                }
            }
            return newLength;
        }

        /** Gives a cell a leader that has no follower; the leader it had goes to the cell that seeks it. */
        private void relink(int end, int cell) {
            ends &= ~bit(end);
            int newLeader = end;
            int newFollower = cell;
            for (int turn = 0; turn < MOST_CELLS; turn++) {
                int lost = linkIn(leader, newFollower);
                link(newLeader, newFollower);
                if (lost == NONE) {
                    return;
                }
                newLeader = lost;
                newFollower = linkIn(seeker, lost);
            }
        }

        private void link(int newLeader, int newFollower) {
            boolean known = newLeader >= 0 && newLeader < MOST_CELLS && newFollower >= 0 && newFollower < MOST_CELLS;
            if (known) {
                follower[newLeader] = newFollower;
                leader[newFollower] = newLeader;
            }
        }

        /**
         * The greatest group whose cell in each chain comes before that of any other greatest group. As cells
         * that lie behind have higher numbers, it is also the lexicographically smallest one. A cell cannot be
         * in it if a cell lies behind it that is in it or before it in a chain.
         */
        long lowestGroup() {
            long reached = 0;
            long tooEarly = 0;
            int length = 0;
            for (int cell = 0; cell < MOST_CELLS; cell++) {
                if (holds(members, cell) && leader[cell] == NONE && length < MOST_CELLS) {
                    reached |= bit(cell);
                    queue[length] = cell;
                    length++;
                }
            }
            for (int index = 0; index < length && index < MOST_CELLS; index++) {
                int cell = queue[index];
                long fresh = aheadOf(cell) & ~bit(cell) & members & ~tooEarly;
                tooEarly |= fresh;
                int newLength = enqueueFollowers(fresh, cell, length);
                for (int added = length; added < newLength; added++) {
                    reached |= bit(queue[added]);
                }
                length = newLength;
            }
            return reached & ~tooEarly;
        }
    }
}
