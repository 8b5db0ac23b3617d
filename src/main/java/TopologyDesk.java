/**
 * Shapes on a small grid, made of points, unit edges or unit cells, and how
 * their insides, rims and outsides meet.
 */
public final class TopologyDesk {
    private static final int SLOTS = 12;
    private static final int VERTICES = 81;
    private static final int VERTICES_PER_COLUMN = 9;
    private static final int SIDE = 17;
    private static final int LAST = SIDE - 1;
    private static final int ELEMENTS = SIDE * SIDE;
    private static final int ALL_ELEMENTS = SLOTS * ELEMENTS;
    private static final int NAMES = 7;

    // A shape's kind is its dimension and 1 added, so a kind can be compared
    // with a digit of relate.
    private static final int EMPTY = 0;
    private static final int POINTS = 1;
    private static final int LINE = 2;
    private static final int AREA = 3;

    private static final int INSIDE = 0;
    private static final int RIM = 1;
    private static final int OUTSIDE = 2;
    private static final int PARTS = 3;

    // Where two parts meet: the first shape's part times PARTS, and the
    // other's part added.
    private static final int INSIDE_INSIDE = 0;
    private static final int INSIDE_RIM = 1;
    private static final int INSIDE_OUTSIDE = 2;
    private static final int RIM_INSIDE = 3;
    private static final int RIM_RIM = 4;
    private static final int RIM_OUTSIDE = 5;
    private static final int OUTSIDE_INSIDE = 6;
    private static final int OUTSIDE_RIM = 7;
    private static final int OUTSIDE_OUTSIDE = 8;
    private static final int MEETINGS = 9;

    private static final int TOGETHER = 0;
    private static final int IN_BOTH = 1;
    private static final int FIRST_ONLY = 2;
    private static final int IN_JUST_ONE = 3;

    private static final int EQUAL = 0;
    private static final int APART = 1;
    private static final int TOUCHING = 2;
    private static final int WITHIN = 3;
    private static final int COVERING = 4;
    private static final int CROSSING = 5;

    private static final int FINE = 0;
    private static final int NO_SLOT = -1;
    private static final int SLOT_IS_EMPTY = -2;
    private static final int OTHER_KIND = -3;
    private static final int OFF_GRID = -4;
    private static final int BAD_CORNERS = -5;
    private static final int BAD_CHOICE = -6;
    private static final int NONE = -7;

    private final int[] kinds = new int[SLOTS];
    private final int[] sizes = new int[SLOTS];
    // The set that each slot's shape consists of; nothing for an empty slot.
    private final boolean[] members = new boolean[ALL_ELEMENTS];
    // The part of its slot's shape that each element is in. It is renewed only
    // when a change is complete, so that a change can read the shape as it was.
    private final int[] places = new int[ALL_ELEMENTS];

    private final int[] meetings = new int[MEETINGS];
    private final boolean[] unvisited = new boolean[ELEMENTS];
    private final int[] piece = new int[ELEMENTS];
    private int pieceLength;

    public TopologyDesk() {
        for (int slot = 0; slot < SLOTS; slot++) {
            settle(slot, EMPTY);
        }
    }

    public int clear(int slot) {
        if (!isSlot(slot)) {
            return NO_SLOT;
        }
        int before = kinds[slot];
        for (int element = 0; element < ELEMENTS; element++) {
            members[slot * ELEMENTS + element] = false;
        }
        settle(slot, EMPTY);
        return before;
    }

    public int point(int slot, int vertex) {
        int refusal = refuseToAdd(slot, POINTS, vertex, vertex);
        if (refusal != FINE) {
            return refusal;
        }
        mark(slot, POINTS, vertex, vertex, true);
        settle(slot, POINTS);
        return sizes[slot];
    }

    public int line(int slot, int from, int to) {
        int refusal = refuseToAdd(slot, LINE, from, to);
        if (refusal != FINE) {
            return refusal;
        }
        if (sharesColumn(from, to) == sharesRow(from, to)) {
            return BAD_CORNERS;
        }
        mark(slot, LINE, from, to, true);
        settle(slot, LINE);
        return sizes[slot];
    }

    public int rectangle(int slot, int from, int to) {
        int refusal = refuseToAdd(slot, AREA, from, to);
        if (refusal != FINE) {
            return refusal;
        }
        if (sharesColumn(from, to) || sharesRow(from, to)) {
            return BAD_CORNERS;
        }
        mark(slot, AREA, from, to, true);
        settle(slot, AREA);
        return sizes[slot];
    }

    public int cut(int slot, int from, int to) {
        int refusal = refuseAsArea(slot);
        if (refusal != FINE) {
            return refusal;
        }
        if (!isVertex(from) || !isVertex(to)) {
            return OFF_GRID;
        }
        if (sharesColumn(from, to) || sharesRow(from, to)) {
            return BAD_CORNERS;
        }
        mark(slot, AREA, from, to, false);
        settle(slot, AREA);
        return sizes[slot];
    }

    public int combine(int slot, int other, int how) {
        int refusal = refuseAsShapes(slot, other);
        if (refusal != FINE) {
            return refusal;
        }
        if (kinds[slot] != kinds[other]) {
            return OTHER_KIND;
        }
        if (how < TOGETHER || how > IN_JUST_ONE) {
            return BAD_CHOICE;
        }
        for (int element = 0; element < ELEMENTS; element++) {
            boolean inFirst = members[slot * ELEMENTS + element];
            boolean inOther = members[other * ELEMENTS + element];
            members[slot * ELEMENTS + element] = isChosen(inFirst, inOther, how);
        }
        settle(slot, kinds[slot]);
        return sizes[slot];
    }

    public int grow(int slot) {
        int refusal = refuseAsArea(slot);
        if (refusal != FINE) {
            return refusal;
        }
        for (int i = 1; i < LAST; i += 2) {
            for (int j = 1; j < LAST; j += 2) {
                if (hasCornerInBody(slot, i, j)) {
                    members[slot * ELEMENTS + i * SIDE + j] = true;
                }
            }
        }
        settle(slot, AREA);
        return sizes[slot];
    }

    public int fill(int slot) {
        int refusal = refuseAsArea(slot);
        if (refusal != FINE) {
            return refusal;
        }
        walkHoles(slot, true);
        settle(slot, AREA);
        return sizes[slot];
    }

    public int outline(int slot, int into) {
        if (!isSlot(slot) || !isSlot(into)) {
            return NO_SLOT;
        }
        int refusal = refuseAsArea(slot);
        if (refusal != FINE) {
            return refusal;
        }
        for (int element = 0; element < ELEMENTS; element++) {
            members[into * ELEMENTS + element] = isRimEdge(slot, element);
        }
        settle(into, LINE);
        return sizes[into];
    }

    public int kind(int slot) {
        return isSlot(slot) ? kinds[slot] : NO_SLOT;
    }

    public int size(int slot) {
        return isSlot(slot) ? sizes[slot] : NO_SLOT;
    }

    public int part(int slot, int i, int j) {
        int refusal = refuseAsShape(slot);
        if (refusal != FINE) {
            return refusal;
        }
        if (!isOnGrid(i, j)) {
            return OFF_GRID;
        }
        return places[slot * ELEMENTS + i * SIDE + j];
    }

    public int relate(int slot, int other) {
        int refusal = refuseAsShapes(slot, other);
        if (refusal != FINE) {
            return refusal;
        }
        findMeetings(slot, other);
        int digits = 0;
        for (int meeting = 0; meeting < MEETINGS; meeting++) {
            digits = digits * 4 + meetings[meeting];
        }
        return digits;
    }

    public int is(int slot, int other, int name) {
        int refusal = refuseAsShapes(slot, other);
        if (refusal != FINE) {
            return refusal;
        }
        if (!isName(name)) {
            return BAD_CHOICE;
        }
        return areSo(slot, other, name) ? 1 : 0;
    }

    public int pairs(int name) {
        if (!isName(name)) {
            return BAD_CHOICE;
        }
        int found = 0;
        for (int slot = 0; slot < SLOTS; slot++) {
            for (int other = 0; other < SLOTS; other++) {
                if (areTwoShapes(slot, other) && areSo(slot, other, name)) {
                    found++;
                }
            }
        }
        return found;
    }

    public int pieces(int slot) {
        int refusal = refuseAsShape(slot);
        if (refusal != FINE) {
            return refusal;
        }
        // An area's rim would join cells that have only a corner in common.
        prepareWalk(slot, INSIDE, kinds[slot] == AREA ? INSIDE : RIM);
        int found = 0;
        for (int element = 0; element < ELEMENTS; element++) {
            if (unvisited[element]) {
                walkPiece(element);
                found++;
            }
        }
        return found;
    }

    public int holes(int slot) {
        int refusal = refuseAsArea(slot);
        if (refusal != FINE) {
            return refusal;
        }
        return walkHoles(slot, false);
    }

    public int rim(int slot) {
        int refusal = refuseAsArea(slot);
        if (refusal != FINE) {
            return refusal;
        }
        int found = 0;
        for (int element = 0; element < ELEMENTS; element++) {
            if (isRimEdge(slot, element)) {
                found++;
            }
        }
        return found;
    }

    public int apart(int slot, int other) {
        int refusal = refuseAsShapes(slot, other);
        if (refusal != FINE) {
            return refusal;
        }
        return leastSquare(slot, other);
    }

    public int nearest(int slot) {
        int refusal = refuseAsShape(slot);
        if (refusal != FINE) {
            return refusal;
        }
        int best = NONE;
        int bestSquare = 0;
        for (int other = 0; other < SLOTS; other++) {
            if (areTwoShapes(slot, other)) {
                int square = leastSquare(slot, other);
                if (best == NONE || square < bestSquare) {
                    best = other;
                    bestSquare = square;
                }
            }
        }
        return best;
    }

    public int inWindow(int from, int to, int k) {
        if (!isVertex(from) || !isVertex(to)) {
            return OFF_GRID;
        }
        int found = 0;
        for (int slot = 0; slot < SLOTS; slot++) {
            if (kinds[slot] != EMPTY && reachesInto(slot, from, to)) {
                if (found == k) {
                    return slot;
                }
                found++;
            }
        }
        return NONE;
    }

    private static boolean isSlot(int slot) {
        return slot >= 0 && slot < SLOTS;
    }

    private static boolean isVertex(int vertex) {
        return vertex >= 0 && vertex < VERTICES;
    }

    private static boolean isName(int name) {
        return name >= 0 && name < NAMES;
    }

    private static boolean isOnGrid(int i, int j) {
        return i >= 0 && i < SIDE && j >= 0 && j < SIDE;
    }

    private static int column(int vertex) {
        return vertex / VERTICES_PER_COLUMN;
    }

    private static int row(int vertex) {
        return vertex % VERTICES_PER_COLUMN;
    }

    private static boolean sharesColumn(int from, int to) {
        return column(from) == column(to);
    }

    private static boolean sharesRow(int from, int to) {
        return row(from) == row(to);
    }

    private static int lesser(int a, int b) {
        return a < b ? a : b;
    }

    private static int greater(int a, int b) {
        return a > b ? a : b;
    }

    private static int lowestI(int from, int to) {
        int least = lesser(from, to);
        return 2 * column(least);
    }

    private static int highestI(int from, int to) {
        int greatest = greater(from, to);
        return 2 * column(greatest);
    }

    private static int lowestJ(int from, int to) {
        int fromRow = row(from);
        int toRow = row(to);
        return 2 * lesser(fromRow, toRow);
    }

    private static int highestJ(int from, int to) {
        int fromRow = row(from);
        int toRow = row(to);
        return 2 * greater(fromRow, toRow);
    }

    private static int dimension(int i, int j) {
        return (i & 1) + (j & 1);
    }

    private int refuseAsShape(int slot) {
        if (!isSlot(slot)) {
            return NO_SLOT;
        }
        return kinds[slot] == EMPTY ? SLOT_IS_EMPTY : FINE;
    }

    private int refuseAsShapes(int slot, int other) {
        if (!isSlot(slot) || !isSlot(other)) {
            return NO_SLOT;
        }
        return kinds[slot] == EMPTY || kinds[other] == EMPTY ? SLOT_IS_EMPTY : FINE;
    }

    private int refuseAsArea(int slot) {
        int refusal = refuseAsShape(slot);
        if (refusal != FINE) {
            return refusal;
        }
        return kinds[slot] == AREA ? FINE : OTHER_KIND;
    }

    private int refuseToAdd(int slot, int asked, int from, int to) {
        if (!isSlot(slot)) {
            return NO_SLOT;
        }
        if (kinds[slot] != EMPTY && kinds[slot] != asked) {
            return OTHER_KIND;
        }
        return isVertex(from) && isVertex(to) ? FINE : OFF_GRID;
    }

    private boolean areTwoShapes(int slot, int other) {
        return slot != other && kinds[slot] != EMPTY && kinds[other] != EMPTY;
    }

    /** Puts in or takes out what a shape of this kind is made of between two vertices. */
    private void mark(int slot, int asked, int from, int to, boolean member) {
        int lastI = highestI(from, to);
        int lastJ = highestJ(from, to);
        for (int i = lowestI(from, to); i <= lastI; i++) {
            for (int j = lowestJ(from, to); j <= lastJ; j++) {
                if (dimension(i, j) == asked - 1) {
                    members[slot * ELEMENTS + i * SIDE + j] = member;
                }
            }
        }
    }

    private static boolean isChosen(boolean inFirst, boolean inOther, int how) {
        if (how == TOGETHER) {
            return inFirst || inOther;
        }
        if (how == IN_BOTH) {
            return inFirst && inOther;
        }
        if (how == FIRST_ONLY) {
            return inFirst && !inOther;
        }
        return inFirst != inOther;
    }

    /** Brings kind, size and parts in line with the slot's members. */
    private void settle(int slot, int kindIfAny) {
        int count = 0;
        for (int element = 0; element < ELEMENTS; element++) {
            if (members[slot * ELEMENTS + element]) {
                count++;
            }
        }
        sizes[slot] = count;
        kinds[slot] = count == 0 ? EMPTY : kindIfAny;
        for (int i = 0; i < SIDE; i++) {
            for (int j = 0; j < SIDE; j++) {
                places[slot * ELEMENTS + i * SIDE + j] = findPlace(slot, i, j);
            }
        }
    }

    private int findPlace(int slot, int i, int j) {
        if (kinds[slot] == AREA) {
            return findPlaceInArea(slot, i, j);
        }
        if (kinds[slot] == LINE && dimension(i, j) == 0) {
            return findVertexPlaceInLine(slot, i, j);
        }
        return countMember(slot, i, j) == 1 ? INSIDE : OUTSIDE;
    }

    private int findPlaceInArea(int slot, int i, int j) {
        // An odd coordinate is the middle of a cell already, so a cell is
        // counted four times here, a cell beside an edge twice and a cell at a
        // vertex once: 4 says "all around" for each of them.
        int left = (i & 1) == 1 ? i : i - 1;
        int right = (i & 1) == 1 ? i : i + 1;
        int below = (j & 1) == 1 ? j : j - 1;
        int above = (j & 1) == 1 ? j : j + 1;
        int around = countMember(slot, left, below) + countMember(slot, left, above)
                + countMember(slot, right, below) + countMember(slot, right, above);
        if (around == 0) {
            return OUTSIDE;
        }
        return around == 4 ? INSIDE : RIM;
    }

    private int findVertexPlaceInLine(int slot, int i, int j) {
        int degree = countMember(slot, i - 1, j) + countMember(slot, i + 1, j)
                + countMember(slot, i, j - 1) + countMember(slot, i, j + 1);
        if (degree == 0) {
            return OUTSIDE;
        }
        return (degree & 1) == 0 ? INSIDE : RIM;
    }

    private int countMember(int slot, int i, int j) {
        return isOnGrid(i, j) && members[slot * ELEMENTS + i * SIDE + j] ? 1 : 0;
    }

    private boolean isInBody(int slot, int i, int j) {
        return places[slot * ELEMENTS + i * SIDE + j] != OUTSIDE;
    }

    private boolean isVertexInBody(int slot, int vertex) {
        int i = 2 * column(vertex);
        int j = 2 * row(vertex);
        return isInBody(slot, i, j);
    }

    private boolean hasCornerInBody(int slot, int i, int j) {
        return isInBody(slot, i - 1, j - 1) || isInBody(slot, i - 1, j + 1)
                || isInBody(slot, i + 1, j - 1) || isInBody(slot, i + 1, j + 1);
    }

    private boolean isRimEdge(int slot, int element) {
        return dimension(element / SIDE, element % SIDE) == 1
                && places[slot * ELEMENTS + element] == RIM;
    }

    /** Fills in the digits of relate. */
    private void findMeetings(int slot, int other) {
        for (int meeting = 0; meeting < MEETINGS; meeting++) {
            meetings[meeting] = 0;
        }
        for (int element = 0; element < ELEMENTS; element++) {
            int first = places[slot * ELEMENTS + element];
            int second = places[other * ELEMENTS + element];
            int meeting = first * PARTS + second;
            int digit = dimension(element / SIDE, element % SIDE) + 1;
            meetings[meeting] = greater(meetings[meeting], digit);
        }
        // Beyond the grid all is outside, even if both shapes fill the grid.
        meetings[OUTSIDE_OUTSIDE] = 3;
    }

    private boolean areSo(int slot, int other, int name) {
        findMeetings(slot, other);
        boolean insidesMeet = meetings[INSIDE_INSIDE] != 0;
        switch (name) {
            case EQUAL:
                return !firstLeavesOther() && !otherLeavesFirst();
            case APART:
                return !bodiesMeet();
            case TOUCHING:
                return bodiesMeet() && !insidesMeet;
            case WITHIN:
                return insidesMeet && !firstLeavesOther();
            case COVERING:
                return !otherLeavesFirst();
            case CROSSING:
                return insidesMeet && meetings[INSIDE_OUTSIDE] != 0
                        && meetings[INSIDE_INSIDE] != greater(kinds[slot], kinds[other]);
            default:
                return kinds[slot] == kinds[other] && meetings[INSIDE_INSIDE] == kinds[slot]
                        && meetings[INSIDE_OUTSIDE] != 0 && meetings[OUTSIDE_INSIDE] != 0;
        }
    }

    private boolean bodiesMeet() {
        return meetings[INSIDE_INSIDE] != 0 || meetings[INSIDE_RIM] != 0
                || meetings[RIM_INSIDE] != 0 || meetings[RIM_RIM] != 0;
    }

    private boolean firstLeavesOther() {
        return meetings[INSIDE_OUTSIDE] != 0 || meetings[RIM_OUTSIDE] != 0;
    }

    private boolean otherLeavesFirst() {
        return meetings[OUTSIDE_INSIDE] != 0 || meetings[OUTSIDE_RIM] != 0;
    }

    /** Opens the elements of a range of a shape's parts to be walked over. */
    private void prepareWalk(int slot, int firstPart, int lastPart) {
        for (int element = 0; element < ELEMENTS; element++) {
            int place = places[slot * ELEMENTS + element];
            unvisited[element] = place >= firstPart && place <= lastPart;
        }
    }

    /** Gathers the piece that an unvisited element is in. */
    private void walkPiece(int start) {
        pieceLength = 0;
        visit(start / SIDE, start % SIDE);
        for (int next = 0; next < ELEMENTS && next < pieceLength; next++) {
            int i = piece[next] / SIDE;
            int j = piece[next] % SIDE;
            visit(i - 1, j);
            visit(i + 1, j);
            visit(i, j - 1);
            visit(i, j + 1);
        }
    }

    private void visit(int i, int j) {
        if (isOnGrid(i, j) && unvisited[i * SIDE + j] && pieceLength < ELEMENTS) {
            unvisited[i * SIDE + j] = false;
            piece[pieceLength] = i * SIDE + j;
            pieceLength++;
        }
    }

    /** Answers how many holes an area has, and adds their cells to it if asked to. */
    private int walkHoles(int slot, boolean addCells) {
        prepareWalk(slot, OUTSIDE, OUTSIDE);
        int found = 0;
        for (int element = 0; element < ELEMENTS; element++) {
            if (unvisited[element]) {
                walkPiece(element);
                if (!pieceReachesBorder()) {
                    found++;
                    if (addCells) {
                        addCellsOfPiece(slot);
                    }
                }
            }
        }
        return found;
    }

    private boolean pieceReachesBorder() {
        for (int next = 0; next < ELEMENTS && next < pieceLength; next++) {
            int i = piece[next] / SIDE;
            int j = piece[next] % SIDE;
            if (i == 0 || i == LAST || j == 0 || j == LAST) {
                return true;
            }
        }
        return false;
    }

    private void addCellsOfPiece(int slot) {
        for (int next = 0; next < ELEMENTS && next < pieceLength; next++) {
            if (dimension(piece[next] / SIDE, piece[next] % SIDE) == 2) {
                members[slot * ELEMENTS + piece[next]] = true;
            }
        }
    }

    // All corners are whole, so of the pairs of points at the least distance
    // one is a pair of vertices: looking at the vertices of the bodies is enough.
    private int leastSquare(int slot, int other) {
        int least = VERTICES * VERTICES;
        for (int from = 0; from < VERTICES; from++) {
            if (isVertexInBody(slot, from)) {
                int square = leastSquareFrom(from, other);
                least = lesser(least, square);
            }
        }
        return least;
    }

    private int leastSquareFrom(int from, int other) {
        int least = VERTICES * VERTICES;
        for (int to = 0; to < VERTICES; to++) {
            if (isVertexInBody(other, to)) {
                int across = column(from) - column(to);
                int along = row(from) - row(to);
                least = lesser(least, across * across + along * along);
            }
        }
        return least;
    }

    private boolean reachesInto(int slot, int from, int to) {
        int lastI = highestI(from, to);
        int lastJ = highestJ(from, to);
        for (int i = lowestI(from, to); i <= lastI; i++) {
            for (int j = lowestJ(from, to); j <= lastJ; j++) {
                if (isInBody(slot, i, j)) {
                    return true;
                }
            }
        }
        return false;
    }
}
