/** Answers worked out by hand from the document, promise by promise. */
public final class PromiseTests {
    private static final int MIN = Integer.MIN_VALUE;
    private static final int MAX = Integer.MAX_VALUE;
    private static final int[] BAD_SLOTS = {-1, 12, MIN, MAX};
    private static final int[] BAD_VERTICES = {-1, 81, MIN, MAX};

    private static final int EQUAL = 0;
    private static final int APART = 1;
    private static final int TOUCHING = 2;
    private static final int WITHIN = 3;
    private static final int COVERING = 4;
    private static final int CROSSING = 5;
    private static final int OVERLAPPING = 6;

    private static int wrong = 0;
    private static int promise = 0;

    private static void due(String call, int got, int want) {
        if (got != want) {
            wrong++;
            System.out.println("promise " + promise + ": " + call + " answered " + got + ", due is " + want);
        }
    }

    private static int v(int x, int y) {
        return 9 * x + y;
    }

    /** Slot 0: points, 1: a line, 2: an area; the others are empty. */
    private static TopologyDesk oneOfEachKind() {
        TopologyDesk desk = new TopologyDesk();
        desk.point(0, v(1, 1));
        desk.line(1, v(0, 0), v(3, 0));
        desk.rectangle(2, v(2, 2), v(4, 4));
        return desk;
    }

    private static void dueUnchanged(TopologyDesk desk) {
        int[] kinds = {1, 2, 3, 0};
        int[] sizes = {1, 3, 4, 0};
        for (int slot = 0; slot < 4; slot++) {
            due("kind(" + slot + ") after refusals", desk.kind(slot), kinds[slot]);
            due("size(" + slot + ") after refusals", desk.size(slot), sizes[slot]);
        }
        due("part(0, 2, 2) after refusals", desk.part(0, 2, 2), 0);
        due("part(1, 0, 0) after refusals", desk.part(1, 0, 0), 1);
        due("part(2, 6, 6) after refusals", desk.part(2, 6, 6), 0);
    }

    private static void newObject() {
        promise = 1;
        TopologyDesk desk = new TopologyDesk();
        for (int slot = 0; slot < 12; slot++) {
            due("kind(" + slot + ")", desk.kind(slot), 0);
            due("size(" + slot + ")", desk.size(slot), 0);
            due("part(" + slot + ", 0, 0)", desk.part(slot, 0, 0), -2);
        }
        due("pairs(1)", desk.pairs(1), 0);
        due("inWindow(0, 80, 0)", desk.inWindow(0, 80, 0), -7);
        desk.point(0, 0);
        TopologyDesk another = new TopologyDesk();
        due("kind(0) of another object", another.kind(0), 0);
    }

    private static void clear() {
        promise = 2;
        TopologyDesk desk = oneOfEachKind();
        for (int slot : BAD_SLOTS) {
            due("clear(" + slot + ")", desk.clear(slot), -1);
        }
        dueUnchanged(desk);
        due("clear(0)", desk.clear(0), 1);
        due("clear(1)", desk.clear(1), 2);
        due("clear(2)", desk.clear(2), 3);
        due("clear(3)", desk.clear(3), 0);
        due("clear(11)", desk.clear(11), 0);
        due("clear(2) again", desk.clear(2), 0);
        due("kind(2)", desk.kind(2), 0);
        due("size(2)", desk.size(2), 0);
        due("point(2, 0)", desk.point(2, 0), 1);
        due("part(2, 5, 5)", desk.part(2, 5, 5), 2);
    }

    private static void point() {
        promise = 3;
        TopologyDesk desk = oneOfEachKind();
        for (int slot : BAD_SLOTS) {
            due("point(" + slot + ", 81)", desk.point(slot, 81), -1);
        }
        for (int vertex : BAD_VERTICES) {
            due("point(0, " + vertex + ")", desk.point(0, vertex), -4);
            due("point(3, " + vertex + ")", desk.point(3, vertex), -4);
            due("point(1, " + vertex + ")", desk.point(1, vertex), -3);
        }
        due("point(1, 0)", desk.point(1, 0), -3);
        due("point(2, 0)", desk.point(2, 0), -3);
        dueUnchanged(desk);
        due("point(0, 10) again", desk.point(0, 10), 1);
        due("point(0, 0)", desk.point(0, 0), 2);
        due("point(0, 80)", desk.point(0, 80), 3);
        due("point(11, 8)", desk.point(11, 8), 1);
        due("part(0, 0, 0)", desk.part(0, 0, 0), 0);
        due("part(0, 16, 16)", desk.part(0, 16, 16), 0);
        due("part(11, 0, 16)", desk.part(11, 0, 16), 0);
        due("part(11, 16, 0)", desk.part(11, 16, 0), 2);
    }

    private static void line() {
        promise = 4;
        TopologyDesk desk = oneOfEachKind();
        for (int slot : BAD_SLOTS) {
            due("line(" + slot + ", 81, 81)", desk.line(slot, 81, 81), -1);
        }
        for (int vertex : BAD_VERTICES) {
            due("line(1, 0, " + vertex + ")", desk.line(1, 0, vertex), -4);
            due("line(1, " + vertex + ", 0)", desk.line(1, vertex, 0), -4);
            due("line(1, " + vertex + ", " + vertex + ")", desk.line(1, vertex, vertex), -4);
            due("line(0, 0, " + vertex + ")", desk.line(0, 0, vertex), -3);
        }
        due("line(2, 0, 0)", desk.line(2, 0, 0), -3);
        due("line(1, 40, 40)", desk.line(1, 40, 40), -5);
        due("line(3, 0, 10)", desk.line(3, 0, 10), -5);
        due("line(3, 8, 9)", desk.line(3, 8, 9), -5);
        dueUnchanged(desk);
        due("line along the same edges", desk.line(1, v(3, 0), v(1, 0)), 3);
        due("line on from the end", desk.line(1, v(2, 0), v(5, 0)), 5);
        due("line up", desk.line(1, v(5, 0), v(5, 8)), 13);
        due("line down", desk.line(1, v(0, 8), v(0, 0)), 21);
        due("part(1, 10, 15)", desk.part(1, 10, 15), 0);
        due("part(1, 0, 15)", desk.part(1, 0, 15), 0);
        due("part(1, 1, 16)", desk.part(1, 1, 16), 2);
        due("line on the last column", desk.line(11, v(8, 8), v(8, 7)), 1);
        due("part(11, 16, 15)", desk.part(11, 16, 15), 0);
    }

    private static void rectangle() {
        promise = 5;
        TopologyDesk desk = oneOfEachKind();
        for (int slot : BAD_SLOTS) {
            due("rectangle(" + slot + ", 81, 81)", desk.rectangle(slot, 81, 81), -1);
        }
        for (int vertex : BAD_VERTICES) {
            due("rectangle(2, 0, " + vertex + ")", desk.rectangle(2, 0, vertex), -4);
            due("rectangle(2, " + vertex + ", 0)", desk.rectangle(2, vertex, 0), -4);
            due("rectangle(1, 0, " + vertex + ")", desk.rectangle(1, 0, vertex), -3);
        }
        due("rectangle(0, 0, 0)", desk.rectangle(0, 0, 0), -3);
        due("rectangle(2, 0, 0)", desk.rectangle(2, 0, 0), -5);
        due("rectangle(2, 0, 8)", desk.rectangle(2, 0, 8), -5);
        due("rectangle(3, 0, 72)", desk.rectangle(3, 0, 72), -5);
        dueUnchanged(desk);
        due("rectangle of cells that are there", desk.rectangle(2, v(3, 3), v(2, 2)), 4);
        due("rectangle that overlaps", desk.rectangle(2, v(3, 3), v(5, 5)), 7);
        due("rectangle by the other corners", desk.rectangle(2, v(0, 8), v(2, 6)), 11);
        due("part(2, 1, 13)", desk.part(2, 1, 13), 0);
        due("part(2, 5, 13)", desk.part(2, 5, 13), 2);
        due("rectangle by the other corners, turned", desk.rectangle(3, v(8, 0), v(7, 1)), 1);
        due("part(3, 15, 1)", desk.part(3, 15, 1), 0);
        due("the whole grid", desk.rectangle(11, 0, 80), 64);
    }

    private static void cut() {
        promise = 6;
        TopologyDesk desk = oneOfEachKind();
        for (int slot : BAD_SLOTS) {
            due("cut(" + slot + ", 81, 81)", desk.cut(slot, 81, 81), -1);
        }
        for (int vertex : BAD_VERTICES) {
            due("cut(2, 0, " + vertex + ")", desk.cut(2, 0, vertex), -4);
            due("cut(2, " + vertex + ", 0)", desk.cut(2, vertex, 0), -4);
            due("cut(1, 0, " + vertex + ")", desk.cut(1, 0, vertex), -3);
            due("cut(3, 0, " + vertex + ")", desk.cut(3, 0, vertex), -2);
        }
        due("cut(0, 0, 10)", desk.cut(0, 0, 10), -3);
        due("cut(2, 30, 30)", desk.cut(2, 30, 30), -5);
        due("cut(2, 20, 22)", desk.cut(2, 20, 22), -5);
        due("cut(2, 20, 38)", desk.cut(2, 20, 38), -5);
        dueUnchanged(desk);
        due("cut of cells that are not there", desk.cut(2, v(4, 2), v(8, 8)), 4);
        due("cut of one cell", desk.cut(2, v(3, 4), v(2, 3)), 3);
        due("part(2, 5, 7)", desk.part(2, 5, 7), 2);
        due("part(2, 6, 6)", desk.part(2, 6, 6), 1);
        due("cut of the rest", desk.cut(2, v(0, 0), v(8, 8)), 0);
        due("kind(2)", desk.kind(2), 0);
        due("cut(2, 0, 10) of an empty slot", desk.cut(2, 0, 10), -2);
        due("line in the slot that is empty now", desk.line(2, 0, 1), 1);
    }

    /** Two overlapping 2 x 2 squares; what is left of the first with each 'how'. */
    private static void combine() {
        promise = 7;
        int[] sizes = {7, 1, 3, 6};
        for (int how = 0; how < 4; how++) {
            TopologyDesk desk = new TopologyDesk();
            desk.rectangle(0, v(0, 0), v(2, 2));
            desk.rectangle(1, v(1, 1), v(3, 3));
            due("combine(0, 1, " + how + ")", desk.combine(0, 1, how), sizes[how]);
            due("size(0)", desk.size(0), sizes[how]);
            due("size(1)", desk.size(1), 4);
            due("cell of the first", desk.part(0, 1, 1), how == 1 ? 2 : 0);
            due("cell of both", desk.part(0, 3, 3), how < 2 ? 0 : 2);
            due("cell of the other", desk.part(0, 5, 5), how == 0 || how == 3 ? 0 : 2);
        }
        combineOtherKinds();
        combineRefused();
    }

    private static void combineOtherKinds() {
        TopologyDesk desk = new TopologyDesk();
        desk.point(0, 0);
        desk.point(0, 1);
        desk.point(1, 1);
        desk.point(1, 2);
        due("points in just one", desk.combine(0, 1, 3), 2);
        due("points in both", desk.combine(0, 1, 1), 1);
        due("points of the first only", desk.combine(0, 1, 2), 0);
        due("kind(0)", desk.kind(0), 0);
        desk.line(2, v(0, 0), v(4, 0));
        desk.line(3, v(5, 5), v(5, 6));
        due("edges together", desk.combine(3, 2, 0), 5);
        due("edges in both", desk.combine(2, 3, 1), 4);
        due("edges of the first only", desk.combine(3, 2, 2), 1);
        due("no edge in both", desk.combine(2, 3, 1), 0);
        due("kind(2)", desk.kind(2), 0);
        due("another kind in the slot that is empty now", desk.rectangle(2, 0, 10), 1);
    }

    private static void combineRefused() {
        TopologyDesk desk = oneOfEachKind();
        for (int slot : BAD_SLOTS) {
            due("combine(" + slot + ", 3, 9)", desk.combine(slot, 3, 9), -1);
            due("combine(3, " + slot + ", 9)", desk.combine(3, slot, 9), -1);
        }
        due("combine(3, 0, 9)", desk.combine(3, 0, 9), -2);
        due("combine(0, 3, 9)", desk.combine(0, 3, 9), -2);
        due("combine(0, 1, 9)", desk.combine(0, 1, 9), -3);
        due("combine(2, 1, 0)", desk.combine(2, 1, 0), -3);
        for (int how : new int[] {-1, 4, MIN, MAX}) {
            due("combine(2, 2, " + how + ")", desk.combine(2, 2, how), -6);
        }
        dueUnchanged(desk);
    }

    private static void grow() {
        promise = 8;
        TopologyDesk desk = oneOfEachKind();
        for (int slot : BAD_SLOTS) {
            due("grow(" + slot + ")", desk.grow(slot), -1);
        }
        due("grow(3)", desk.grow(3), -2);
        due("grow(0)", desk.grow(0), -3);
        due("grow(1)", desk.grow(1), -3);
        dueUnchanged(desk);
        due("grow(2)", desk.grow(2), 16);
        due("part(2, 3, 3)", desk.part(2, 3, 3), 0);
        due("part(2, 1, 1)", desk.part(2, 1, 1), 2);
        due("grow(2) again", desk.grow(2), 36);
        due("grow(2) to two sides", desk.grow(2), 49);
        due("grow(2) once more", desk.grow(2), 64);
        due("grow(2) of the whole grid", desk.grow(2), 64);
        desk.rectangle(3, v(7, 7), v(8, 8));
        desk.rectangle(3, v(0, 0), v(1, 1));
        due("grow(3) in two corners", desk.grow(3), 8);
    }

    private static void fill() {
        promise = 9;
        TopologyDesk desk = oneOfEachKind();
        for (int slot : BAD_SLOTS) {
            due("fill(" + slot + ")", desk.fill(slot), -1);
        }
        due("fill(3)", desk.fill(3), -2);
        due("fill(0)", desk.fill(0), -3);
        due("fill(1)", desk.fill(1), -3);
        dueUnchanged(desk);
        due("fill(2) without a hole", desk.fill(2), 4);
        desk.rectangle(3, v(0, 0), v(8, 8));
        desk.cut(3, v(1, 1), v(3, 3));
        desk.cut(3, v(5, 5), v(6, 7));
        desk.cut(3, v(7, 2), v(8, 3));
        due("size(3)", desk.size(3), 57);
        due("fill(3)", desk.fill(3), 63);
        due("part(3, 4, 4)", desk.part(3, 4, 4), 0);
        due("part(3, 15, 5)", desk.part(3, 15, 5), 2);
        due("holes(3)", desk.holes(3), 0);
        fillNested();
    }

    /** A ring, and within its hole a ring with a hole. */
    private static void fillNested() {
        TopologyDesk desk = new TopologyDesk();
        desk.rectangle(0, v(0, 0), v(7, 7));
        desk.cut(0, v(1, 1), v(6, 6));
        desk.rectangle(0, v(2, 2), v(5, 5));
        desk.cut(0, v(3, 3), v(4, 4));
        due("size(0)", desk.size(0), 32);
        due("holes(0)", desk.holes(0), 2);
        due("fill(0)", desk.fill(0), 49);
    }

    private static void outline() {
        promise = 10;
        TopologyDesk desk = oneOfEachKind();
        for (int slot : BAD_SLOTS) {
            due("outline(" + slot + ", 0)", desk.outline(slot, 0), -1);
            due("outline(3, " + slot + ")", desk.outline(3, slot), -1);
            due("outline(2, " + slot + ")", desk.outline(2, slot), -1);
        }
        due("outline(3, 0)", desk.outline(3, 0), -2);
        due("outline(0, 3)", desk.outline(0, 3), -3);
        due("outline(1, 1)", desk.outline(1, 1), -3);
        dueUnchanged(desk);
        due("outline(2, 3)", desk.outline(2, 3), 8);
        due("kind(2)", desk.kind(2), 3);
        due("kind(3)", desk.kind(3), 2);
        due("size(3)", desk.size(3), 8);
        due("part(3, 4, 5)", desk.part(3, 4, 5), 0);
        due("part(3, 4, 4)", desk.part(3, 4, 4), 0);
        due("part(3, 6, 5)", desk.part(3, 6, 5), 2);
        desk.rectangle(4, 0, 80);
        due("outline of the whole grid", desk.outline(4, 5), 32);
        due("part(5, 0, 1)", desk.part(5, 0, 1), 0);
        due("part(5, 15, 16)", desk.part(5, 15, 16), 0);
    }

    private static void kindAndSize() {
        TopologyDesk desk = oneOfEachKind();
        for (int slot : BAD_SLOTS) {
            promise = 11;
            due("kind(" + slot + ")", desk.kind(slot), -1);
            promise = 12;
            due("size(" + slot + ")", desk.size(slot), -1);
        }
        promise = 11;
        due("kind(0)", desk.kind(0), 1);
        due("kind(1)", desk.kind(1), 2);
        due("kind(2)", desk.kind(2), 3);
        due("kind(3)", desk.kind(3), 0);
        due("kind(11)", desk.kind(11), 0);
        promise = 12;
        due("size(0)", desk.size(0), 1);
        due("size(1)", desk.size(1), 3);
        due("size(2)", desk.size(2), 4);
        due("size(3)", desk.size(3), 0);
        desk.rectangle(11, 0, 80);
        due("size(11)", desk.size(11), 64);
        for (int k = 0; k < 9; k++) {
            desk.line(10, v(k, 0), v(k, 8));
            desk.line(10, v(0, k), v(8, k));
        }
        due("size(10) with all edges", desk.size(10), 144);
    }

    private static void part() {
        promise = 13;
        TopologyDesk desk = oneOfEachKind();
        for (int slot : BAD_SLOTS) {
            due("part(" + slot + ", 17, 17)", desk.part(slot, 17, 17), -1);
        }
        due("part(3, 17, 17)", desk.part(3, 17, 17), -2);
        for (int off : new int[] {-1, 17, MIN, MAX}) {
            due("part(0, " + off + ", 0)", desk.part(0, off, 0), -4);
            due("part(0, 0, " + off + ")", desk.part(0, 0, off), -4);
        }
        due("a vertex of points", desk.part(0, 2, 2), 0);
        due("a vertex beside points", desk.part(0, 2, 4), 2);
        due("an edge at points", desk.part(0, 2, 3), 2);
        due("the end of a line", desk.part(1, 0, 0), 1);
        due("the middle of a line", desk.part(1, 2, 0), 0);
        due("an edge of a line", desk.part(1, 1, 0), 0);
        due("an edge beyond a line", desk.part(1, 7, 0), 2);
        due("a cell at a line", desk.part(1, 1, 1), 2);
        due("a cell of an area", desk.part(2, 5, 5), 0);
        due("an edge within an area", desk.part(2, 6, 5), 0);
        due("a vertex within an area", desk.part(2, 6, 6), 0);
        due("an edge at an area's side", desk.part(2, 4, 5), 1);
        due("a vertex at an area's corner", desk.part(2, 8, 8), 1);
        due("an edge away from an area's corner", desk.part(2, 9, 8), 2);
        due("a cell beside an area", desk.part(2, 3, 5), 2);
        partAtDegrees();
        partAtTheBorder();
    }

    /** A vertex of a line is in the rim at the degrees 1 and 3. */
    private static void partAtDegrees() {
        TopologyDesk desk = new TopologyDesk();
        int[] ends = {v(3, 4), v(5, 4), v(4, 3), v(4, 5)};
        int[] places = {1, 0, 1, 0};
        for (int k = 0; k < 4; k++) {
            desk.line(0, v(4, 4), ends[k]);
            due("a vertex of degree " + (k + 1), desk.part(0, 8, 8), places[k]);
        }
        due("a vertex of degree 0", desk.part(0, 6, 6), 2);
    }

    private static void partAtTheBorder() {
        TopologyDesk desk = new TopologyDesk();
        desk.rectangle(0, 0, 80);
        for (int k = 0; k < 17; k++) {
            due("part(0, 0, " + k + ")", desk.part(0, 0, k), 1);
            due("part(0, 16, " + k + ")", desk.part(0, 16, k), 1);
            due("part(0, " + k + ", 0)", desk.part(0, k, 0), 1);
            due("part(0, " + k + ", 16)", desk.part(0, k, 16), 1);
        }
        due("part(0, 1, 1)", desk.part(0, 1, 1), 0);
        due("part(0, 15, 15)", desk.part(0, 15, 15), 0);
        desk.cut(0, v(4, 4), v(5, 5));
        due("a vertex with three cells", desk.part(0, 8, 8), 1);
        desk.cut(0, v(3, 3), v(4, 4));
        due("a vertex with two cells, cornerwise", desk.part(0, 8, 8), 1);
    }

    private static int digits(String base4) {
        return Integer.parseInt(base4, 4);
    }

    private static void relate() {
        promise = 14;
        TopologyDesk desk = oneOfEachKind();
        for (int slot : BAD_SLOTS) {
            due("relate(" + slot + ", 3)", desk.relate(slot, 3), -1);
            due("relate(3, " + slot + ")", desk.relate(3, slot), -1);
        }
        due("relate(3, 0)", desk.relate(3, 0), -2);
        due("relate(0, 3)", desk.relate(0, 3), -2);
        due("points and an area apart", desk.relate(0, 2), digits("001000323"));
        due("an area and points apart", desk.relate(2, 0), digits("003002103"));
        due("a line and an area apart", desk.relate(1, 2), digits("002001323"));
        desk.rectangle(4, v(0, 0), v(8, 8));
        due("two shapes that fill the grid", desk.relate(4, 4), digits("300020003"));
        due("an area within another", desk.relate(2, 4), digits("300200323"));
        due("an area about another", desk.relate(4, 2), digits("323002003"));
        due("points within an area", desk.relate(0, 4), digits("100000323"));
        due("a line on an area's rim", desk.relate(1, 4), digits("020010323"));
        desk.line(5, v(3, 3), v(6, 3));
        due("a line into an area", desk.relate(5, 2), digits("212101323"));
        desk.rectangle(6, v(4, 4), v(5, 5));
        due("areas with a corner in common", desk.relate(2, 6), digits("003012323"));
        desk.rectangle(7, v(4, 3), v(5, 4));
        due("areas with an edge in common", desk.relate(2, 7), digits("003022323"));
    }

    /** Each name's answer for a pair, as seven digits of 0 or 1 in the names' order. */
    private static void dueNames(TopologyDesk desk, int slot, int other, String want) {
        for (int name = 0; name < 7; name++) {
            due("is(" + slot + ", " + other + ", " + name + ")", desk.is(slot, other, name),
                    want.charAt(name) - '0');
        }
    }

    private static void is() {
        promise = 15;
        TopologyDesk desk = oneOfEachKind();
        for (int slot : BAD_SLOTS) {
            due("is(" + slot + ", 3, 7)", desk.is(slot, 3, 7), -1);
            due("is(3, " + slot + ", 7)", desk.is(3, slot, 7), -1);
        }
        due("is(3, 0, 7)", desk.is(3, 0, 7), -2);
        due("is(0, 3, 7)", desk.is(0, 3, 7), -2);
        for (int name : new int[] {-1, 7, MIN, MAX}) {
            due("is(0, 1, " + name + ")", desk.is(0, 1, name), -6);
        }
        dueNames(desk, 0, 2, "0100000");
        dueNames(desk, 1, 2, "0100000");
        dueNames(desk, 0, 0, "1001100");
        dueNames(desk, 1, 1, "1001100");
        dueNames(desk, 2, 2, "1001100");
        isForAreas();
        isForLines();
        isForPoints();
    }

    private static void isForAreas() {
        TopologyDesk desk = new TopologyDesk();
        desk.rectangle(0, v(2, 2), v(4, 4));
        desk.rectangle(1, v(3, 3), v(5, 5));
        dueNames(desk, 0, 1, "0000001");
        desk.rectangle(2, v(2, 2), v(3, 3));
        dueNames(desk, 2, 0, "0001000");
        dueNames(desk, 0, 2, "0000100");
        desk.rectangle(3, v(4, 4), v(5, 5));
        dueNames(desk, 0, 3, "0010000");
        desk.rectangle(4, v(5, 2), v(6, 4));
        dueNames(desk, 0, 4, "0100000");
        desk.outline(0, 5);
        dueNames(desk, 0, 5, "0010100");
        dueNames(desk, 5, 0, "0010000");
        desk.line(6, v(3, 2), v(3, 4));
        dueNames(desk, 6, 0, "0001000");
        dueNames(desk, 0, 6, "0000110");
        desk.line(7, v(3, 2), v(3, 5));
        dueNames(desk, 7, 0, "0000010");
        dueNames(desk, 0, 7, "0000010");
        desk.point(8, v(3, 3));
        dueNames(desk, 8, 0, "0001000");
        dueNames(desk, 0, 8, "0000110");
        desk.point(8, v(7, 7));
        dueNames(desk, 8, 0, "0000010");
        desk.point(9, v(2, 2));
        dueNames(desk, 9, 0, "0010000");
        dueNames(desk, 0, 9, "0010100");
        desk.rectangle(10, v(2, 2), v(4, 4));
        dueNames(desk, 0, 10, "1001100");
    }

    private static void isForLines() {
        TopologyDesk desk = new TopologyDesk();
        desk.line(0, v(0, 4), v(6, 4));
        desk.line(1, v(3, 1), v(3, 7));
        dueNames(desk, 0, 1, "0000010");
        desk.line(2, v(4, 4), v(8, 4));
        dueNames(desk, 0, 2, "0000001");
        desk.line(3, v(2, 4), v(4, 4));
        dueNames(desk, 3, 0, "0001000");
        dueNames(desk, 0, 3, "0000100");
        desk.line(4, v(6, 4), v(6, 8));
        dueNames(desk, 0, 4, "0010000");
        desk.line(5, v(2, 4), v(2, 8));
        dueNames(desk, 0, 5, "0010000");
        desk.line(6, v(0, 5), v(6, 5));
        dueNames(desk, 0, 6, "0100000");
        desk.point(7, v(3, 4));
        dueNames(desk, 7, 0, "0001000");
        dueNames(desk, 0, 7, "0000110");
        desk.point(8, v(0, 4));
        dueNames(desk, 8, 0, "0010000");
        dueNames(desk, 0, 8, "0010100");
    }

    private static void isForPoints() {
        TopologyDesk desk = new TopologyDesk();
        desk.point(0, 0);
        desk.point(0, 1);
        desk.point(1, 1);
        desk.point(1, 2);
        desk.point(2, 2);
        dueNames(desk, 0, 1, "0000001");
        dueNames(desk, 2, 1, "0001000");
        dueNames(desk, 1, 2, "0000100");
        dueNames(desk, 0, 2, "0100000");
    }

    private static void pairs() {
        promise = 16;
        TopologyDesk desk = new TopologyDesk();
        for (int name : new int[] {-1, 7, MIN, MAX}) {
            due("pairs(" + name + ")", desk.pairs(name), -6);
        }
        desk.rectangle(0, v(0, 0), v(4, 4));
        due("pairs(0) with one shape", desk.pairs(EQUAL), 0);
        desk.rectangle(5, v(0, 0), v(4, 4));
        desk.rectangle(6, v(1, 1), v(2, 2));
        desk.rectangle(11, v(3, 3), v(5, 5));
        desk.point(7, v(8, 8));
        due("pairs(0)", desk.pairs(EQUAL), 2);
        due("pairs(1)", desk.pairs(APART), 10);
        due("pairs(2)", desk.pairs(TOUCHING), 0);
        due("pairs(3)", desk.pairs(WITHIN), 4);
        due("pairs(4)", desk.pairs(COVERING), 4);
        due("pairs(5)", desk.pairs(CROSSING), 0);
        due("pairs(6)", desk.pairs(OVERLAPPING), 4);
        desk.point(7, v(1, 0));
        due("pairs(2) with a point on two rims", desk.pairs(TOUCHING), 4);
        desk.point(8, v(4, 4));
        due("pairs(5) from the area to the point alone", desk.pairs(CROSSING), 1);
    }

    private static void pieces() {
        promise = 17;
        TopologyDesk desk = oneOfEachKind();
        for (int slot : BAD_SLOTS) {
            due("pieces(" + slot + ")", desk.pieces(slot), -1);
        }
        due("pieces(3)", desk.pieces(3), -2);
        due("pieces(0)", desk.pieces(0), 1);
        due("pieces(1)", desk.pieces(1), 1);
        due("pieces(2)", desk.pieces(2), 1);
        desk.point(0, v(1, 2));
        desk.point(0, v(5, 5));
        due("points side by side are pieces", desk.pieces(0), 3);
        desk.line(1, v(0, 1), v(3, 1));
        due("lines side by side are pieces", desk.pieces(1), 2);
        desk.line(1, v(3, 1), v(3, 2));
        due("a line on from an end", desk.pieces(1), 2);
        desk.line(1, v(3, 0), v(3, 1));
        due("a line that joins two", desk.pieces(1), 1);
        desk.rectangle(2, v(4, 4), v(5, 5));
        due("areas with a corner in common are pieces", desk.pieces(2), 2);
        desk.rectangle(2, v(4, 3), v(5, 4));
        due("an area with an edge in common", desk.pieces(2), 1);
        desk.rectangle(2, v(7, 7), v(8, 8));
        due("an area in the last corner", desk.pieces(2), 2);
        due("questions change nothing", desk.pieces(2), 2);
    }

    private static void holes() {
        promise = 18;
        TopologyDesk desk = oneOfEachKind();
        for (int slot : BAD_SLOTS) {
            due("holes(" + slot + ")", desk.holes(slot), -1);
        }
        due("holes(3)", desk.holes(3), -2);
        due("holes(0)", desk.holes(0), -3);
        due("holes(1)", desk.holes(1), -3);
        due("holes(2)", desk.holes(2), 0);
        desk.rectangle(3, 0, 80);
        due("the whole grid", desk.holes(3), 0);
        desk.cut(3, v(2, 2), v(3, 3));
        due("a hole", desk.holes(3), 1);
        desk.cut(3, v(3, 3), v(4, 4));
        due("holes with a corner in common are two", desk.holes(3), 2);
        desk.cut(3, v(3, 2), v(4, 3));
        due("holes with an edge in common are one", desk.holes(3), 1);
        desk.cut(3, v(0, 5), v(1, 6));
        due("a notch at the border is none", desk.holes(3), 1);
        desk.cut(3, v(7, 5), v(8, 6));
        desk.cut(3, v(5, 7), v(6, 8));
        due("notches at the far borders are none", desk.holes(3), 1);
        desk.cut(3, v(1, 6), v(2, 7));
        due("a hole with a corner at a notch", desk.holes(3), 2);
        due("questions change nothing", desk.size(3), 57);
    }

    private static void rim() {
        promise = 19;
        TopologyDesk desk = oneOfEachKind();
        for (int slot : BAD_SLOTS) {
            due("rim(" + slot + ")", desk.rim(slot), -1);
        }
        due("rim(3)", desk.rim(3), -2);
        due("rim(0)", desk.rim(0), -3);
        due("rim(1)", desk.rim(1), -3);
        due("rim(2)", desk.rim(2), 8);
        desk.rectangle(2, v(4, 4), v(5, 5));
        due("rim(2) of two pieces", desk.rim(2), 12);
        desk.rectangle(3, 0, 80);
        due("rim(3) of the whole grid", desk.rim(3), 32);
        desk.cut(3, v(3, 3), v(5, 4));
        due("rim(3) with a hole", desk.rim(3), 38);
    }

    private static void apart() {
        promise = 20;
        TopologyDesk desk = oneOfEachKind();
        for (int slot : BAD_SLOTS) {
            due("apart(" + slot + ", 3)", desk.apart(slot, 3), -1);
            due("apart(3, " + slot + ")", desk.apart(3, slot), -1);
        }
        due("apart(3, 0)", desk.apart(3, 0), -2);
        due("apart(0, 3)", desk.apart(0, 3), -2);
        due("apart(0, 1)", desk.apart(0, 1), 1);
        due("apart(0, 2)", desk.apart(0, 2), 2);
        due("apart(2, 0)", desk.apart(2, 0), 2);
        due("apart(1, 2)", desk.apart(1, 2), 4);
        due("apart(2, 2)", desk.apart(2, 2), 0);
        desk.point(3, 0);
        desk.point(4, 80);
        due("opposite corners", desk.apart(3, 4), 128);
        desk.point(4, v(2, 8));
        due("the nearer one of two points", desk.apart(3, 4), 68);
        desk.rectangle(5, v(4, 4), v(5, 5));
        due("a corner in common", desk.apart(5, 2), 0);
        desk.point(6, v(3, 3));
        due("a point within an area", desk.apart(6, 2), 0);
    }

    private static void nearest() {
        promise = 21;
        TopologyDesk desk = new TopologyDesk();
        for (int slot : BAD_SLOTS) {
            due("nearest(" + slot + ")", desk.nearest(slot), -1);
        }
        due("nearest(5)", desk.nearest(5), -2);
        desk.point(5, v(4, 4));
        due("nearest(5) alone", desk.nearest(5), -7);
        due("nearest(0) of an empty slot", desk.nearest(0), -2);
        desk.point(11, v(8, 8));
        due("nearest(5) of one", desk.nearest(5), 11);
        desk.point(9, v(4, 2));
        due("nearest(5) of two", desk.nearest(5), 9);
        desk.line(7, v(0, 6), v(8, 6));
        due("nearest(5) of two as near", desk.nearest(5), 7);
        desk.rectangle(10, v(4, 4), v(5, 5));
        due("nearest(5) with one that it meets", desk.nearest(5), 10);
        desk.point(0, v(0, 0));
        due("nearest(5) with a far one ahead", desk.nearest(5), 10);
        due("nearest(11)", desk.nearest(11), 7);
    }

    private static void inWindow() {
        promise = 22;
        TopologyDesk desk = oneOfEachKind();
        for (int vertex : BAD_VERTICES) {
            due("inWindow(" + vertex + ", 0, 0)", desk.inWindow(vertex, 0, 0), -4);
            due("inWindow(0, " + vertex + ", 0)", desk.inWindow(0, vertex, 0), -4);
            due("inWindow(0, " + vertex + ", -1)", desk.inWindow(0, vertex, -1), -4);
        }
        desk.point(11, v(8, 8));
        int[] slots = {0, 1, 2, 11, -7, -7};
        for (int k = 0; k < slots.length; k++) {
            due("inWindow(0, 80, " + k + ")", desk.inWindow(0, 80, k), slots[k]);
            due("inWindow(80, 0, " + k + ")", desk.inWindow(80, 0, k), slots[k]);
            due("inWindow(8, 72, " + k + ")", desk.inWindow(8, 72, k), slots[k]);
            due("inWindow(72, 8, " + k + ")", desk.inWindow(72, 8, k), slots[k]);
        }
        for (int k : new int[] {-1, MIN, MAX}) {
            due("inWindow(0, 80, " + k + ")", desk.inWindow(0, 80, k), -7);
        }
        due("a point", desk.inWindow(v(1, 1), v(1, 1), 0), 0);
        due("a point with nothing", desk.inWindow(v(1, 2), v(1, 2), 0), -7);
        due("an area's corner", desk.inWindow(v(4, 4), v(4, 4), 0), 2);
        due("a point within an area", desk.inWindow(v(3, 3), v(3, 3), 0), 2);
        due("a segment", desk.inWindow(v(3, 1), v(3, 0), 0), 1);
        due("a segment that touches an area", desk.inWindow(v(0, 4), v(2, 4), 0), 2);
        due("a segment beside an area", desk.inWindow(v(0, 5), v(8, 5), 0), -7);
        due("a rectangle between shapes", desk.inWindow(v(5, 1), v(8, 7), 0), -7);
        due("a rectangle by the other corners", desk.inWindow(v(1, 4), v(2, 1), 0), 0);
        due("a rectangle by the other corners, second", desk.inWindow(v(1, 4), v(2, 1), 1), 2);
        due("a rectangle by the other corners, third", desk.inWindow(v(1, 4), v(2, 1), 2), -7);
    }

    private static void orderAndLimits() {
        promise = 23;
        for (int slot = 0; slot < 3; slot++) {
            TopologyDesk desk = oneOfEachKind();
            int size = desk.size(slot);
            due("combine with itself, 0", desk.combine(slot, slot, 0), size);
            due("combine with itself, 1", desk.combine(slot, slot, 1), size);
            due("apart from itself", desk.apart(slot, slot), 0);
            due("equal to itself", desk.is(slot, slot, EQUAL), 1);
            due("combine with itself, 2", desk.combine(slot, slot, 2), 0);
            due("kind then", desk.kind(slot), 0);
            desk = oneOfEachKind();
            due("combine with itself, 3", desk.combine(slot, slot, 3), 0);
            due("kind then", desk.kind(slot), 0);
            due("size then", desk.size(slot), 0);
        }
        TopologyDesk desk = oneOfEachKind();
        due("points with themselves", desk.relate(0, 0), digits("100000003"));
        due("a line with itself", desk.relate(1, 1), digits("200010003"));
        due("an area with itself", desk.relate(2, 2), digits("300020003"));
        outlineIntoAnyKind();
    }

    private static void outlineIntoAnyKind() {
        for (int into = 0; into < 4; into++) {
            TopologyDesk desk = oneOfEachKind();
            due("outline(2, " + into + ")", desk.outline(2, into), 8);
            due("kind(" + into + ")", desk.kind(into), 2);
            due("size(" + into + ")", desk.size(into), 8);
            due("kind(2)", desk.kind(2), into == 2 ? 2 : 3);
            due("the point is gone", desk.part(into, 2, 2), 2);
            due("the old line is gone", desk.part(into, 1, 0), 2);
            due("the cell is gone", desk.part(into, 5, 5), 2);
            due("an edge of the new line", desk.part(into, 8, 7), 0);
        }
    }

    public static void main(String[] args) {
        newObject();
        clear();
        point();
        line();
        rectangle();
        cut();
        combine();
        grow();
        fill();
        outline();
        kindAndSize();
        part();
        relate();
        is();
        pairs();
        pieces();
        holes();
        rim();
        apart();
        nearest();
        inWindow();
        orderAndLimits();
        System.out.println(wrong == 0 ? "all answers are as due" : wrong + " answers are not as due");
        if (wrong != 0) {
            System.exit(1);
        }
    }
}
