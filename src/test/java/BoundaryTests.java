import java.util.List;

/**
 * Each sentence of the document that names a boundary case which is not
 * refused: the least and the greatest, the empty and the full, what lies on a
 * limit and just beside it, and a wrap-around. Refusals are in RefusalTests.
 */
public final class BoundaryTests {
    private static final int EQUAL = 0;
    private static final int APART = 1;
    private static final int TOUCHING = 2;
    private static final int WITHIN = 3;
    private static final int COVERING = 4;
    private static final int CROSSING = 5;
    private static final int OVERLAPPING = 6;

    private static int wrong = 0;
    private static int sentences = 0;
    private static int promise = 0;
    private static String sentence = "";

    /** Each sentence is tested on an object of its own. */
    private static TopologyDesk sentence(int number, String words) {
        promise = number;
        sentence = words;
        sentences++;
        return new TopologyDesk();
    }

    private static void say(String what) {
        wrong++;
        String place = promise == 0 ? "terms" : "promise " + promise;
        System.out.println(place + ", \"" + sentence + "\": " + what);
    }

    private static void due(String call, int got, int want) {
        if (got != want) {
            say(call + " answered " + got + ", due is " + want);
        }
    }

    private static void dueEmpty(TopologyDesk desk, int slot) {
        due("kind(" + slot + ")", desk.kind(slot), 0);
        due("size(" + slot + ")", desk.size(slot), 0);
        due("part(" + slot + ", 0, 0)", desk.part(slot, 0, 0), -2);
    }

    private static void duePart(TopologyDesk desk, int slot, int i, int j, int want) {
        due("part(" + slot + ", " + i + ", " + j + ")", desk.part(slot, i, j), want);
    }

    private static void dueIs(TopologyDesk desk, int slot, int other, int name, int want) {
        due("is(" + slot + ", " + other + ", " + name + ")", desk.is(slot, other, name), want);
    }

    private static void dueRelate(TopologyDesk desk, int slot, int other, String digits) {
        due("relate(" + slot + ", " + other + ")", desk.relate(slot, other), Integer.parseInt(digits, 4));
    }

    private static int v(int x, int y) {
        return 9 * x + y;
    }

    /** Adds one cell; answers how many cells there are. */
    private static int cell(TopologyDesk desk, int slot, int x, int y) {
        return desk.rectangle(slot, v(x, y), v(x + 1, y + 1));
    }

    private static int cutCell(TopologyDesk desk, int slot, int x, int y) {
        return desk.cut(slot, v(x, y), v(x + 1, y + 1));
    }

    private static void allVertices(TopologyDesk desk, int slot) {
        for (int vertex = 0; vertex < 81; vertex++) {
            desk.point(slot, vertex);
        }
    }

    private static void allEdges(TopologyDesk desk, int slot) {
        for (int k = 0; k <= 8; k++) {
            desk.line(slot, v(k, 0), v(k, 8));
            desk.line(slot, v(0, k), v(8, k));
        }
    }

    private static void allCells(TopologyDesk desk, int slot) {
        desk.rectangle(slot, 0, 80);
    }

    /** Every second cell, as on a board; cell (0, 0) is one of the 32. */
    private static void everySecondCell(TopologyDesk desk, int slot) {
        for (int x = 0; x < 8; x++) {
            for (int y = x % 2; y < 8; y += 2) {
                cell(desk, slot, x, y);
            }
        }
    }

    private static void uses() {
        TopologyDesk desk = sentence(0, "An object is used for at most 512 calls");
        for (int call = 1; call < 511; call += 2) {
            due("call " + call + ", rectangle(0, 0, 80)", desk.rectangle(0, 0, 80), 64);
            due("call " + (call + 1) + ", cut(0, 0, 80)", desk.cut(0, 0, 80), 0);
        }
        due("call 511, rectangle(0, 0, 10)", desk.rectangle(0, 0, 10), 1);
        due("call 512, rim(0)", desk.rim(0), 4);
        desk = sentence(0, "An object is used for at most 512 calls (with shapes in all slots)");
        for (int call = 1; call < 512; call++) {
            int slot = call % 12;
            due("call " + call + ", point", desk.point(slot, call / 12), call / 12 + (slot == 0 ? 0 : 1));
        }
        due("call 512, pieces(7)", desk.pieces(7), 43);
    }

    private static void grid() {
        TopologyDesk desk = sentence(0, "whole coordinates x and y from 0 to 8 .. the number 9 * x + y");
        int[] vertices = {0, 8, 9, 71, 72, 80};
        int[] i = {0, 0, 2, 14, 16, 16};
        int[] j = {0, 16, 0, 16, 0, 16};
        for (int k = 0; k < vertices.length; k++) {
            due("point(" + k + ", " + vertices[k] + ")", desk.point(k, vertices[k]), 1);
            duePart(desk, k, i[k], j[k], 0);
        }
        desk = sentence(0, "the number 9 * x + y (the last of a column is not beside the first of the next)");
        desk.point(0, 8);
        desk.point(1, 9);
        due("apart(0, 1)", desk.apart(0, 1), 65);
        due("rectangle(2, 8, 9)", desk.rectangle(2, 8, 9), 8);
        due("line(3, 8, 9)", desk.line(3, 8, 9), -5);

        desk = sentence(0, "there are 64 CELLS, cell (x, y), x and y from 0 to 7");
        for (int k = 0; k < 64; k++) {
            due("cell " + k, cell(desk, 0, k / 8, k % 8), k + 1);
            duePart(desk, 0, k / 8 * 2 + 1, k % 8 * 2 + 1, 0);
        }
    }

    /** Over the whole grid, for the full shape of each kind. */
    private static void elements() {
        TopologyDesk desk = sentence(0, "Element (i, j): a vertex if both are even");
        allVertices(desk, 0);
        for (int e = 0; e < 289; e++) {
            duePart(desk, 0, e / 17, e % 17, e / 17 % 2 == 0 && e % 17 % 2 == 0 ? 0 : 2);
        }
        desk = sentence(0, "Element (i, j): a cell if both are odd, else an edge (all edges)");
        allEdges(desk, 0);
        for (int e = 0; e < 289; e++) {
            int odd = e / 17 % 2 + e % 17 % 2;
            if (odd > 0) {
                duePart(desk, 0, e / 17, e % 17, odd == 2 ? 2 : 0);
            }
        }
        desk = sentence(0, "Element (i, j): a cell if both are odd (all cells)");
        allCells(desk, 0);
        for (int e = 0; e < 289; e++) {
            boolean border = e / 17 % 16 == 0 || e % 17 % 16 == 0;
            duePart(desk, 0, e / 17, e % 17, border ? 1 : 0);
        }
    }

    private static void slots() {
        TopologyDesk desk = sentence(0, "There are 12 SLOTS, 0 to 11");
        for (int slot = 0; slot < 12; slot++) {
            due("rectangle(" + slot + ", ..)", desk.rectangle(slot, 0, v(1 + slot / 6, 1 + slot % 6)),
                    (1 + slot / 6) * (1 + slot % 6));
        }
        for (int slot = 0; slot < 12; slot++) {
            due("size(" + slot + ")", desk.size(slot), (1 + slot / 6) * (1 + slot % 6));
        }
    }

    private static void slotsSideBySide() {
        TopologyDesk desk = sentence(0,
                "There are 12 SLOTS (a shape at the border is not joined with the next slot's)");
        desk.point(1, v(0, 4));
        desk.line(0, v(7, 4), v(8, 4));
        duePart(desk, 0, 16, 8, 1);
        desk.line(3, v(0, 0), v(0, 8));
        cell(desk, 2, 7, 3);
        duePart(desk, 2, 16, 7, 1);
        duePart(desk, 2, 16, 9, 2);
        desk = sentence(0, "There are 12 SLOTS (a shape at the border is not joined with the slot's before)");
        desk.point(0, v(8, 4));
        desk.line(1, v(0, 4), v(1, 4));
        duePart(desk, 1, 0, 8, 1);
        desk.line(2, v(8, 0), v(8, 8));
        cell(desk, 3, 0, 3);
        duePart(desk, 3, 0, 7, 1);
        duePart(desk, 3, 0, 9, 2);
    }

    private static void shapesAreNotEmpty() {
        TopologyDesk desk = sentence(0, "none of these sets being empty (cut)");
        cell(desk, 0, 3, 3);
        due("cut", cutCell(desk, 0, 3, 3), 0);
        dueEmpty(desk, 0);
        for (int how = 1; how < 4; how++) {
            desk = sentence(0, "none of these sets being empty (combine, how " + how + ")");
            desk.line(0, 0, 1);
            desk.line(1, how == 1 ? 2 : 0, how == 1 ? 3 : 1);
            due("combine(0, 1, " + how + ")", desk.combine(0, 1, how), 0);
            dueEmpty(desk, 0);
            due("pairs(0)", desk.pairs(EQUAL), 0);
            due("nearest(1)", desk.nearest(1), -7);
        }
    }

    private static void partsOfPoints() {
        TopologyDesk desk = sentence(0, "POINTS: its vertices are the inside; the rim is empty.");
        desk.point(0, v(4, 4));
        desk.point(0, v(4, 5));
        for (int e = 0; e < 289; e++) {
            boolean inside = e / 17 == 8 && (e % 17 == 8 || e % 17 == 10);
            duePart(desk, 0, e / 17, e % 17, inside ? 0 : 2);
        }
    }

    private static void partsOfLines() {
        int[] ends = {v(3, 4), v(5, 4), v(4, 3), v(4, 5)};
        int[] places = {2, 1, 0, 1, 0};
        TopologyDesk desk;
        for (int degree = 0; degree <= 4; degree++) {
            String words = degree % 2 == 0 ? "the vertices of an even degree above 0 are the inside ("
                    : "the vertices of an odd degree are the rim (";
            desk = sentence(0, words + degree + ")");
            desk.line(0, 0, 1);
            for (int k = 0; k < degree; k++) {
                desk.line(0, v(4, 4), ends[k]);
            }
            duePart(desk, 0, 8, 8, places[degree]);
        }
        desk = sentence(0, "how many edges of the line end there (at the grid's border)");
        allEdges(desk, 0);
        for (int k = 0; k <= 16; k += 2) {
            int want = k % 16 == 0 ? 0 : 1;
            duePart(desk, 0, 0, k, want);
            duePart(desk, 0, 16, k, want);
            duePart(desk, 0, k, 0, want);
            duePart(desk, 0, k, 16, want);
        }
        duePart(desk, 0, 2, 2, 0);
        duePart(desk, 0, 14, 14, 0);
        desk = sentence(0, "how many edges of the line end there (no wrap-around to the next column)");
        desk.line(0, v(0, 8), v(1, 8));
        desk.line(1, v(1, 0), v(2, 0));
        duePart(desk, 0, 0, 16, 1);
        duePart(desk, 0, 2, 0, 2);
        duePart(desk, 0, 4, 0, 2);
        duePart(desk, 1, 2, 0, 1);
        duePart(desk, 1, 0, 16, 2);
        duePart(desk, 1, 2, 16, 2);
        desk = sentence(0, "the edges .. are the inside (of a line of one edge)");
        desk.line(0, v(8, 7), v(8, 8));
        for (int e = 0; e < 289; e++) {
            int place = e == 17 * 16 + 15 ? 0 : e == 17 * 16 + 14 || e == 17 * 16 + 16 ? 1 : 2;
            duePart(desk, 0, e / 17, e % 17, place);
        }
    }

    private static void partsOfAreas() {
        TopologyDesk desk = sentence(0, "a cell of the area is in the inside, another one in the outside");
        cell(desk, 0, 3, 3);
        duePart(desk, 0, 7, 7, 0);
        duePart(desk, 0, 5, 7, 2);
        duePart(desk, 0, 9, 7, 2);
        duePart(desk, 0, 7, 5, 2);
        duePart(desk, 0, 7, 9, 2);
        desk = sentence(0, "An edge is .. in the outside (beside no cell)");
        cell(desk, 0, 3, 3);
        duePart(desk, 0, 9, 8, 2);
        duePart(desk, 0, 8, 9, 2);
        duePart(desk, 0, 4, 7, 2);
        desk = sentence(0, "An edge is .. in the rim if beside just one");
        cell(desk, 0, 3, 3);
        duePart(desk, 0, 8, 7, 1);
        duePart(desk, 0, 6, 7, 1);
        duePart(desk, 0, 7, 8, 1);
        duePart(desk, 0, 7, 6, 1);
        desk = sentence(0, "An edge is in the inside if it is beside two cells of the area");
        desk.rectangle(0, v(3, 3), v(5, 5));
        duePart(desk, 0, 8, 7, 0);
        duePart(desk, 0, 7, 8, 0);
        desk = sentence(0, "An edge is .. in the rim if beside just one (at the grid's border)");
        allCells(desk, 0);
        duePart(desk, 0, 0, 1, 1);
        duePart(desk, 0, 1, 0, 1);
        duePart(desk, 0, 16, 15, 1);
        duePart(desk, 0, 15, 16, 1);
        verticesOfAreas();
    }

    private static void verticesOfAreas() {
        TopologyDesk desk;
        int[] x = {4, 3, 3, 4};
        int[] y = {4, 3, 4, 3};
        int[] places = {2, 1, 1, 1, 0};
        for (int cells = 0; cells <= 4; cells++) {
            desk = sentence(0, "A vertex is .. a corner of " + cells + " cells of the area");
            cell(desk, 0, 0, 0);
            for (int k = 0; k < cells; k++) {
                cell(desk, 0, x[k], y[k]);
            }
            duePart(desk, 0, 8, 8, places[cells]);
        }
        desk = sentence(0,
                "A vertex is in the inside if it is a corner of four cells (at the grid's border)");
        allCells(desk, 0);
        duePart(desk, 0, 0, 0, 1);
        duePart(desk, 0, 0, 16, 1);
        duePart(desk, 0, 16, 0, 1);
        duePart(desk, 0, 16, 16, 1);
        duePart(desk, 0, 0, 8, 1);
        duePart(desk, 0, 8, 16, 1);
        duePart(desk, 0, 2, 2, 0);
        duePart(desk, 0, 14, 14, 0);
    }

    private static void outsides() {
        TopologyDesk desk = sentence(0,
                "The two outsides of any two shapes meet with dimension 2 (beyond the grid)");
        allCells(desk, 0);
        allCells(desk, 1);
        dueRelate(desk, 0, 1, "300020003");
        desk = sentence(0,
                "The two outsides of any two shapes meet with dimension 2 (two halves of the grid)");
        desk.rectangle(0, v(0, 0), v(4, 8));
        desk.rectangle(1, v(4, 0), v(8, 8));
        dueRelate(desk, 0, 1, "003022323");
    }

    private static void newObject() {
        TopologyDesk desk = sentence(1, "All slots are empty. (the first and the last, and those between)");
        for (int slot = 0; slot < 12; slot++) {
            dueEmpty(desk, slot);
            due("clear(" + slot + ")", desk.clear(slot), 0);
        }
        desk = sentence(1, "All slots are empty. (each takes any kind)");
        for (int slot = 0; slot < 12; slot++) {
            due("point(" + slot + ", 40)", desk.point(slot, 40), 1);
            desk.clear(slot);
            due("line(" + slot + ", 0, 1)", desk.line(slot, 0, 1), 1);
            desk.clear(slot);
            due("rectangle(" + slot + ", 0, 10)", desk.rectangle(slot, 0, 10), 1);
        }
    }

    private static void clear() {
        TopologyDesk desk = sentence(2, "answers what it was: 0 empty");
        due("clear(0)", desk.clear(0), 0);
        due("clear(11)", desk.clear(11), 0);
        dueEmpty(desk, 0);
        desk = sentence(2, "A slot becomes empty. (full points)");
        allVertices(desk, 0);
        due("clear(0)", desk.clear(0), 1);
        dueEmpty(desk, 0);
        due("clear(0) again", desk.clear(0), 0);
        desk = sentence(2, "A slot becomes empty. (a full line)");
        allEdges(desk, 0);
        due("clear(0)", desk.clear(0), 2);
        dueEmpty(desk, 0);
        due("line(0, 0, 1)", desk.line(0, 0, 1), 1);
        desk = sentence(2, "A slot becomes empty. (a full area, and no other slot)");
        allCells(desk, 0);
        allCells(desk, 1);
        allCells(desk, 2);
        due("clear(1)", desk.clear(1), 3);
        dueEmpty(desk, 1);
        due("rectangle(1, 0, 10)", desk.rectangle(1, 0, 10), 1);
        due("size(0)", desk.size(0), 64);
        due("size(2)", desk.size(2), 64);
    }

    private static void point() {
        TopologyDesk desk = sentence(3, "a slot that has points or is empty");
        due("point(0, 40)", desk.point(0, 40), 1);
        due("kind(0)", desk.kind(0), 1);
        due("point(0, 41)", desk.point(0, 41), 2);
        desk = sentence(3, "answers how many vertices it has (one that it has already)");
        due("point(0, 40)", desk.point(0, 40), 1);
        due("point(0, 40)", desk.point(0, 40), 1);
        desk = sentence(3, "answers how many vertices it has (all of them)");
        for (int vertex = 0; vertex < 81; vertex++) {
            due("point(0, " + vertex + ")", desk.point(0, vertex), vertex + 1);
        }
        due("point(0, 0)", desk.point(0, 0), 81);
        due("point(0, 80)", desk.point(0, 80), 81);
    }

    private static void line() {
        TopologyDesk desk = sentence(4, "a slot that has a line or is empty");
        due("line(0, 40, 41)", desk.line(0, 40, 41), 1);
        due("kind(0)", desk.kind(0), 2);
        due("line(0, 40, 39)", desk.line(0, 40, 39), 2);
        desk = sentence(4, "the edges on the straight way (the shortest)");
        int[] ends = {v(3, 4), v(5, 4), v(4, 3), v(4, 5)};
        int[] i = {7, 9, 8, 8};
        int[] j = {8, 8, 7, 9};
        for (int k = 0; k < 4; k++) {
            due("line(" + k + ", 40, " + ends[k] + ")", desk.line(k, 40, ends[k]), 1);
            duePart(desk, k, i[k], j[k], 0);
        }
        desk = sentence(4, "the edges on the straight way (the longest, along the grid's border)");
        due("line(0, 0, 8)", desk.line(0, 0, 8), 8);
        due("line(0, 80, 72)", desk.line(0, 80, 72), 16);
        due("line(0, 72, 0)", desk.line(0, 72, 0), 24);
        due("line(0, 8, 80)", desk.line(0, 8, 80), 32);
        desk = sentence(4, "Adds the edges (that it has already, in part or all)");
        due("line(0, 36, 40)", desk.line(0, 36, 40), 4);
        due("line(0, 40, 36)", desk.line(0, 40, 36), 4);
        due("line(0, 38, 42)", desk.line(0, 38, 42), 6);
        desk = sentence(4, "answers how many edges it has (all of them)");
        allEdges(desk, 0);
        due("size(0)", desk.size(0), 144);
        due("line(0, 0, 72)", desk.line(0, 0, 72), 144);
    }

    private static void rectangle() {
        TopologyDesk desk = sentence(5, "a slot that has an area or is empty");
        due("rectangle(0, 0, 10)", desk.rectangle(0, 0, 10), 1);
        due("kind(0)", desk.kind(0), 3);
        due("rectangle(0, 10, 20)", desk.rectangle(0, 10, 20), 2);
        int[][] corners = {{3, 3, 4, 4}, {4, 4, 3, 3}, {3, 4, 4, 3}, {4, 3, 3, 4}};
        for (int[] c : corners) {
            desk = sentence(5, "two vertices as opposite corners (one cell, " + v(c[0], c[1]) + ")");
            due("rectangle", desk.rectangle(0, v(c[0], c[1]), v(c[2], c[3])), 1);
            duePart(desk, 0, 7, 7, 0);
        }
        int[][] ends = {{0, 80}, {80, 0}, {8, 72}, {72, 8}};
        for (int[] e : ends) {
            desk = sentence(5, "two vertices as opposite corners (the whole grid, " + e[0] + ")");
            due("rectangle", desk.rectangle(0, e[0], e[1]), 64);
        }
        desk = sentence(5, "two vertices as opposite corners (one column or row of cells)");
        due("rectangle(0, 8, 9)", desk.rectangle(0, 8, 9), 8);
        duePart(desk, 0, 1, 15, 0);
        duePart(desk, 0, 3, 1, 2);
        due("rectangle(1, 7, 80)", desk.rectangle(1, 7, 80), 8);
        duePart(desk, 1, 15, 15, 0);
        duePart(desk, 1, 15, 13, 2);
        desk = sentence(5, "answers how many cells it has (that it has already)");
        due("rectangle(0, 0, 80)", desk.rectangle(0, 0, 80), 64);
        due("rectangle(0, 0, 80)", desk.rectangle(0, 0, 80), 64);
        due("rectangle(0, 40, 50)", desk.rectangle(0, 40, 50), 64);
    }

    private static void cut() {
        TopologyDesk desk = sentence(6, "Takes the cells of such a rectangle out (none of them is there)");
        desk.rectangle(0, v(0, 0), v(2, 2));
        due("cut(0, 20, 80)", desk.cut(0, 20, 80), 4);
        desk = sentence(6, "Takes the cells of such a rectangle out (those beside it stay)");
        allCells(desk, 0);
        due("cut(0, 30, 40)", desk.cut(0, 30, 40), 63);
        duePart(desk, 0, 7, 7, 2);
        duePart(desk, 0, 5, 7, 0);
        duePart(desk, 0, 9, 7, 0);
        duePart(desk, 0, 7, 5, 0);
        duePart(desk, 0, 7, 9, 0);
        desk = sentence(6, "answers how many cells it has (one is left)");
        allCells(desk, 0);
        due("cut(0, 0, 71)", desk.cut(0, 0, 71), 8);
        due("cut(0, 63, 79)", desk.cut(0, 63, 79), 1);
        due("kind(0)", desk.kind(0), 3);
        duePart(desk, 0, 15, 15, 0);
        desk = sentence(6, "if none is left, the slot is empty then");
        allCells(desk, 0);
        allCells(desk, 1);
        due("cut(0, 0, 80)", desk.cut(0, 0, 80), 0);
        dueEmpty(desk, 0);
        due("cut(0, 0, 80) again", desk.cut(0, 0, 80), -2);
        due("size(1)", desk.size(1), 64);
        due("point(0, 40)", desk.point(0, 40), 1);
    }

    private static void combine() {
        int[] apart = {2, 0, 1, 2};
        int[] same = {1, 1, 0, 0};
        int[] kinds = {1, 2, 3};
        for (int how = 0; how < 4; how++) {
            TopologyDesk desk = sentence(7, "how " + how + " (nothing is in both)");
            twoOfOneOf(desk, true);
            for (int k = 0; k < 3; k++) {
                due("combine(" + k + ", .., " + how + ")", desk.combine(k, k + 3, how), apart[how]);
                due("kind(" + k + ")", desk.kind(k), apart[how] == 0 ? 0 : kinds[k]);
                due("size(" + (k + 3) + ")", desk.size(k + 3), 1);
            }
            desk = sentence(7, "how " + how + " (all is in both)");
            twoOfOneOf(desk, false);
            for (int k = 0; k < 3; k++) {
                due("combine(" + k + ", .., " + how + ")", desk.combine(k, k + 3, how), same[how]);
                due("kind(" + k + ")", desk.kind(k), same[how] == 0 ? 0 : kinds[k]);
                due("kind(" + (k + 3) + ")", desk.kind(k + 3), kinds[k]);
            }
        }
        combineFull();
    }

    /** One vertex, one edge and one cell in slots 0 to 2, and others or the same in 3 to 5. */
    private static void twoOfOneOf(TopologyDesk desk, boolean apart) {
        desk.point(0, 0);
        desk.line(1, 0, 1);
        desk.rectangle(2, 0, 10);
        desk.point(3, apart ? 80 : 0);
        desk.line(4, apart ? 79 : 0, apart ? 80 : 1);
        desk.rectangle(5, apart ? 70 : 0, apart ? 80 : 10);
    }

    private static void combineFull() {
        int[] sizes = {144, 8, 136, 136};
        for (int how = 0; how < 4; how++) {
            TopologyDesk desk = sentence(7, "how " + how + " (of all edges)");
            allEdges(desk, 0);
            desk.line(1, 0, 8);
            due("combine(0, 1, " + how + ")", desk.combine(0, 1, how), sizes[how]);
            duePart(desk, 0, 0, 1, how < 2 ? 0 : 2);
            duePart(desk, 0, 16, 15, how == 1 ? 2 : 0);
        }
        TopologyDesk desk = sentence(7, "If it is empty, the slot is empty then (and takes any kind)");
        desk.point(0, 0);
        desk.point(1, 0);
        due("combine(0, 1, 2)", desk.combine(0, 1, 2), 0);
        dueEmpty(desk, 0);
        due("combine(0, 1, 0)", desk.combine(0, 1, 0), -2);
        due("combine(1, 0, 0)", desk.combine(1, 0, 0), -2);
        due("line(0, 0, 1)", desk.line(0, 0, 1), 1);
    }

    private static void grow() {
        int[][] starts = {{0, 0, 4}, {0, 7, 4}, {7, 0, 4}, {7, 7, 4}, {0, 4, 6}, {4, 0, 6}, {7, 3, 6},
            {3, 7, 6}, {3, 3, 9}, {1, 1, 9}, {6, 6, 9}};
        TopologyDesk desk;
        for (int[] s : starts) {
            desk = sentence(8, "Adds to an area all cells (about cell " + s[0] + ", " + s[1] + ")");
            cell(desk, 0, s[0], s[1]);
            due("grow(0)", desk.grow(0), s[2]);
            for (int k = 0; k < 64; k++) {
                boolean near = Math.abs(k / 8 - s[0]) <= 1 && Math.abs(k % 8 - s[1]) <= 1;
                duePart(desk, 0, k / 8 * 2 + 1, k % 8 * 2 + 1, near ? 0 : 2);
            }
        }
        desk = sentence(8, "Adds to an area all cells (there is none to add)");
        allCells(desk, 0);
        due("grow(0)", desk.grow(0), 64);
        desk = sentence(8, "Adds to an area all cells (a hole of one cell, and the last cell)");
        allCells(desk, 0);
        cutCell(desk, 0, 3, 3);
        cutCell(desk, 0, 7, 7);
        due("grow(0)", desk.grow(0), 64);
        desk = sentence(8, "with one of its cells (not with one that has just been added)");
        cell(desk, 0, 0, 0);
        int[] sizes = {4, 9, 16, 25, 36, 49, 64, 64};
        for (int size : sizes) {
            due("grow(0)", desk.grow(0), size);
        }
    }

    private static void fill() {
        TopologyDesk desk = sentence(9, "all cells of its holes (there is no hole)");
        cell(desk, 0, 0, 0);
        due("fill(0)", desk.fill(0), 1);
        due("rectangle(0, 0, 80)", desk.rectangle(0, 0, 80), 64);
        due("fill(0)", desk.fill(0), 64);
        desk = sentence(9, "all cells of its holes (the greatest hole)");
        allCells(desk, 0);
        due("cut", desk.cut(0, v(1, 1), v(7, 7)), 28);
        due("fill(0)", desk.fill(0), 64);
        duePart(desk, 0, 8, 8, 0);
        due("fill(0) again", desk.fill(0), 64);
        desk = sentence(9, "all cells of its holes (not those that reach the grid's border)");
        allCells(desk, 0);
        desk.cut(0, v(0, 3), v(2, 4));
        desk.cut(0, v(3, 0), v(4, 2));
        desk.cut(0, v(6, 3), v(8, 4));
        desk.cut(0, v(3, 6), v(4, 8));
        due("fill(0)", desk.fill(0), 56);
        desk = sentence(9, "all cells of its holes (many holes)");
        everySecondCell(desk, 0);
        due("fill(0)", desk.fill(0), 50);
        duePart(desk, 0, 3, 5, 0);
        duePart(desk, 0, 1, 3, 2);
        due("holes(0)", desk.holes(0), 0);
        desk = sentence(9, "all cells of its holes (a hole about an area with a hole)");
        desk.rectangle(0, v(1, 1), v(6, 6));
        desk.cut(0, v(2, 2), v(5, 5));
        cell(desk, 0, 3, 3);
        due("size(0)", desk.size(0), 17);
        due("fill(0)", desk.fill(0), 25);
    }

    private static void outline() {
        TopologyDesk desk = sentence(10, "the line of all edges in the rim (of one cell)");
        cell(desk, 0, 7, 7);
        due("outline(0, 1)", desk.outline(0, 1), 4);
        duePart(desk, 1, 14, 15, 0);
        duePart(desk, 1, 16, 15, 0);
        duePart(desk, 1, 15, 14, 0);
        duePart(desk, 1, 15, 16, 0);
        duePart(desk, 1, 15, 15, 2);
        desk = sentence(10, "the line of all edges in the rim (of the whole grid)");
        allCells(desk, 0);
        due("outline(0, 1)", desk.outline(0, 1), 32);
        for (int k = 1; k < 16; k += 2) {
            duePart(desk, 1, 0, k, 0);
            duePart(desk, 1, 16, k, 0);
            duePart(desk, 1, k, 0, 0);
            duePart(desk, 1, k, 16, 0);
            duePart(desk, 1, 2, k, 2);
        }
        desk = sentence(10, "the line of all edges in the rim (the most that there can be)");
        everySecondCell(desk, 0);
        due("outline(0, 1)", desk.outline(0, 1), 128);
        desk = sentence(10, "The slot 'into' (which may be the same)");
        allCells(desk, 0);
        due("outline(0, 0)", desk.outline(0, 0), 32);
        due("kind(0)", desk.kind(0), 2);
        due("size(0)", desk.size(0), 32);
        duePart(desk, 0, 1, 1, 2);
        due("outline(0, 0) again", desk.outline(0, 0), -3);
    }

    private static void kindAndSize() {
        TopologyDesk desk = sentence(11, "0 for an empty slot (before, and when it has become empty)");
        due("kind(0)", desk.kind(0), 0);
        cell(desk, 0, 0, 0);
        due("kind(0)", desk.kind(0), 3);
        desk.outline(0, 0);
        due("kind(0)", desk.kind(0), 2);
        desk.combine(0, 0, 2);
        due("kind(0)", desk.kind(0), 0);
        desk.point(0, 0);
        due("kind(0)", desk.kind(0), 1);
        desk = sentence(12, "How many vertices (all)");
        allVertices(desk, 0);
        due("size(0)", desk.size(0), 81);
        desk = sentence(12, "How many edges (all)");
        allEdges(desk, 0);
        due("size(0)", desk.size(0), 144);
        desk = sentence(12, "How many cells (all)");
        allCells(desk, 0);
        due("size(0)", desk.size(0), 64);
        desk = sentence(12, "0 if it is empty (before, and when it has become empty)");
        due("size(0)", desk.size(0), 0);
        allCells(desk, 0);
        desk.cut(0, 0, 80);
        due("size(0)", desk.size(0), 0);
        desk.point(0, 0);
        desk.clear(0);
        due("size(0)", desk.size(0), 0);
    }

    private static void part() {
        TopologyDesk desk = sentence(13, "Where element (i, j) is (at the grid's corners)");
        int[][] corners = {{0, 0}, {0, 16}, {16, 0}, {16, 16}};
        for (int k = 0; k < 4; k++) {
            desk.point(k, v(corners[k][0] / 2, corners[k][1] / 2));
            for (int other = 0; other < 4; other++) {
                duePart(desk, k, corners[other][0], corners[other][1], other == k ? 0 : 2);
            }
        }
        desk = sentence(13, "Where element (i, j) is (i and j are not taken for each other)");
        desk.line(0, v(2, 5), v(3, 5));
        duePart(desk, 0, 5, 10, 0);
        duePart(desk, 0, 10, 5, 2);
    }

    private static void relate() {
        TopologyDesk desk = sentence(14, "0 if they do not meet");
        desk.point(0, 0);
        desk.point(1, 80);
        dueRelate(desk, 0, 1, "001000103");
        desk = sentence(14, "else the dimension and 1 added (0, 1 and 2)");
        desk.point(0, 40);
        desk.line(1, 0, 8);
        allCells(desk, 2);
        dueRelate(desk, 0, 0, "100000003");
        dueRelate(desk, 1, 1, "200010003");
        dueRelate(desk, 2, 2, "300020003");
        desk = sentence(14, "the greatest of such elements' dimensions (a vertex alone, or an edge too)");
        desk.rectangle(0, v(2, 2), v(4, 4));
        cell(desk, 1, 4, 4);
        cell(desk, 2, 4, 3);
        dueRelate(desk, 0, 1, "003012323");
        dueRelate(desk, 0, 2, "003022323");
        desk = sentence(14, "the first one counting most (the first slot's part named first)");
        allCells(desk, 0);
        desk.point(1, 40);
        desk.line(2, 0, 8);
        dueRelate(desk, 0, 1, "103002003");
        dueRelate(desk, 1, 0, "100000323");
        dueRelate(desk, 0, 2, "003212003");
        dueRelate(desk, 2, 0, "020010323");
    }

    private static void equalAndApart() {
        TopologyDesk desk = sentence(15, "EQUAL: the bodies are the same (or but for one element)");
        allVertices(desk, 0);
        allVertices(desk, 1);
        dueIs(desk, 0, 1, EQUAL, 1);
        desk.point(2, 80);
        desk.combine(1, 2, 2);
        dueIs(desk, 0, 1, EQUAL, 0);
        dueIs(desk, 1, 0, EQUAL, 0);
        desk = sentence(15, "EQUAL: the bodies are the same (one is a part of the other)");
        desk.rectangle(0, v(0, 0), v(4, 4));
        desk.rectangle(1, v(0, 0), v(4, 5));
        desk.outline(0, 2);
        dueIs(desk, 0, 1, EQUAL, 0);
        dueIs(desk, 1, 0, EQUAL, 0);
        dueIs(desk, 0, 2, EQUAL, 0);
        dueIs(desk, 2, 0, EQUAL, 0);
        desk = sentence(15, "APART: the bodies do not meet (or in one vertex)");
        cell(desk, 0, 3, 3);
        desk.point(1, v(4, 5));
        dueIs(desk, 0, 1, APART, 1);
        dueIs(desk, 1, 0, APART, 1);
        desk.point(1, v(4, 4));
        dueIs(desk, 0, 1, APART, 0);
        dueIs(desk, 1, 0, APART, 0);
        desk = sentence(15, "APART: the bodies do not meet (one is in the other's hole)");
        allCells(desk, 0);
        desk.cut(0, v(1, 1), v(7, 7));
        desk.rectangle(1, v(2, 2), v(6, 6));
        dueIs(desk, 0, 1, APART, 1);
        desk.rectangle(1, v(1, 2), v(2, 3));
        dueIs(desk, 0, 1, APART, 0);
    }

    private static void touching() {
        TopologyDesk desk = sentence(15, "TOUCHING: the bodies meet, the insides do not (rim with rim)");
        cell(desk, 0, 3, 3);
        cell(desk, 1, 4, 4);
        dueIs(desk, 0, 1, TOUCHING, 1);
        desk.rectangle(1, v(3, 3), v(4, 4));
        dueIs(desk, 0, 1, TOUCHING, 0);
        desk = sentence(15, "TOUCHING: the bodies meet, the insides do not (rim with inside)");
        desk.line(0, v(4, 0), v(4, 4));
        desk.line(1, v(2, 4), v(6, 4));
        dueIs(desk, 0, 1, TOUCHING, 1);
        dueIs(desk, 1, 0, TOUCHING, 1);
        desk.line(0, v(4, 4), v(4, 5));
        dueIs(desk, 0, 1, TOUCHING, 0);
        dueIs(desk, 1, 0, TOUCHING, 0);
        desk = sentence(15, "TOUCHING: the bodies meet (they do not)");
        desk.point(0, 0);
        desk.point(1, 1);
        dueIs(desk, 0, 1, TOUCHING, 0);
    }

    private static void withinAndCovering() {
        TopologyDesk desk = sentence(15, "WITHIN: the insides meet (all on the rim: they do not)");
        allCells(desk, 0);
        desk.outline(0, 1);
        dueIs(desk, 1, 0, WITHIN, 0);
        desk.line(1, v(0, 4), v(1, 4));
        dueIs(desk, 1, 0, WITHIN, 1);
        desk = sentence(15, "WITHIN: the first one's body does not meet the other one's outside (areas)");
        desk.rectangle(0, v(0, 0), v(4, 4));
        desk.rectangle(1, v(0, 0), v(3, 4));
        dueIs(desk, 1, 0, WITHIN, 1);
        dueIs(desk, 0, 1, WITHIN, 0);
        cell(desk, 1, 4, 0);
        dueIs(desk, 1, 0, WITHIN, 0);
        desk = sentence(15, "WITHIN: the first one's body does not meet the other one's outside (lines)");
        desk.line(0, v(3, 3), v(3, 4));
        desk.line(1, v(3, 3), v(3, 5));
        dueIs(desk, 0, 1, WITHIN, 1);
        dueIs(desk, 1, 0, WITHIN, 0);
        desk.line(0, v(3, 3), v(3, 2));
        dueIs(desk, 0, 1, WITHIN, 0);
        desk = sentence(15,
                "COVERING: the other one's body does not meet the first one's outside (or in one vertex)");
        allCells(desk, 0);
        desk.outline(0, 1);
        allVertices(desk, 2);
        dueIs(desk, 0, 1, COVERING, 1);
        dueIs(desk, 0, 2, COVERING, 1);
        dueIs(desk, 1, 0, COVERING, 0);
        cutCell(desk, 0, 0, 0);
        dueIs(desk, 0, 1, COVERING, 0);
        dueIs(desk, 0, 2, COVERING, 0);
        desk = sentence(15, "COVERING (the insides need not meet)");
        allCells(desk, 0);
        desk.point(1, 0);
        dueIs(desk, 0, 1, COVERING, 1);
    }

    private static void crossing() {
        TopologyDesk desk = sentence(15, "CROSSING: the insides meet (or the inside and a rim alone)");
        desk.line(0, v(4, 0), v(4, 8));
        desk.line(1, v(4, 4), v(8, 4));
        dueIs(desk, 0, 1, CROSSING, 0);
        desk.line(1, v(3, 4), v(4, 4));
        dueIs(desk, 0, 1, CROSSING, 1);
        desk = sentence(15,
                "CROSSING: no element of the greater one of the two shapes' dimensions (two of one kind)");
        desk.line(0, v(4, 0), v(4, 8));
        desk.line(1, v(3, 4), v(5, 4));
        dueIs(desk, 0, 1, CROSSING, 1);
        desk.line(1, v(4, 4), v(4, 5));
        desk.line(1, v(4, 4), v(4, 3));
        dueIs(desk, 0, 1, CROSSING, 0);
        desk = sentence(15,
                "CROSSING: no element of the greater one of the two shapes' dimensions (of two kinds)");
        desk.rectangle(0, v(2, 2), v(6, 6));
        desk.line(1, v(4, 4), v(4, 8));
        desk.point(2, v(4, 4));
        desk.point(2, v(4, 8));
        dueIs(desk, 1, 0, CROSSING, 1);
        dueIs(desk, 0, 1, CROSSING, 1);
        dueIs(desk, 2, 0, CROSSING, 1);
        dueIs(desk, 0, 2, CROSSING, 1);
        desk = sentence(15, "CROSSING: the inside of the first meets the outside of the other (or does not)");
        desk.rectangle(0, v(2, 2), v(6, 6));
        desk.line(1, v(4, 2), v(4, 6));
        dueIs(desk, 1, 0, CROSSING, 0);
        dueIs(desk, 0, 1, CROSSING, 1);
        desk.line(1, v(4, 6), v(4, 7));
        dueIs(desk, 1, 0, CROSSING, 1);
    }

    private static void overlapping() {
        TopologyDesk desk = sentence(15, "OVERLAPPING: the shapes are of one kind (or are not)");
        desk.rectangle(0, v(0, 0), v(4, 4));
        desk.rectangle(1, v(3, 3), v(5, 5));
        desk.line(2, v(2, 2), v(8, 2));
        dueIs(desk, 0, 1, OVERLAPPING, 1);
        dueIs(desk, 1, 0, OVERLAPPING, 1);
        dueIs(desk, 0, 2, OVERLAPPING, 0);
        dueIs(desk, 2, 0, OVERLAPPING, 0);
        desk = sentence(15, "OVERLAPPING: an element of their dimension in common (or of a lesser one)");
        desk.line(0, v(4, 0), v(4, 8));
        desk.line(1, v(3, 4), v(5, 4));
        dueIs(desk, 0, 1, OVERLAPPING, 0);
        desk.line(1, v(4, 4), v(4, 5));
        dueIs(desk, 0, 1, OVERLAPPING, 1);
        desk = sentence(15, "OVERLAPPING: the inside of each meets the outside of the other (of one alone)");
        desk.rectangle(0, v(0, 0), v(4, 4));
        desk.rectangle(1, v(0, 0), v(4, 3));
        dueIs(desk, 0, 1, OVERLAPPING, 0);
        dueIs(desk, 1, 0, OVERLAPPING, 0);
        cell(desk, 1, 4, 0);
        dueIs(desk, 0, 1, OVERLAPPING, 1);
        dueIs(desk, 1, 0, OVERLAPPING, 1);
        desk = sentence(15, "OVERLAPPING: the inside of each meets the outside of the other (the same)");
        allCells(desk, 0);
        allCells(desk, 1);
        dueIs(desk, 0, 1, OVERLAPPING, 0);
    }

    private static void pairs() {
        TopologyDesk desk = sentence(16, "How many ordered pairs (no shape)");
        for (int name = 0; name < 7; name++) {
            due("pairs(" + name + ")", desk.pairs(name), 0);
        }
        desk = sentence(16, "ordered pairs of different slots (one shape)");
        allCells(desk, 0);
        for (int name = 0; name < 7; name++) {
            due("pairs(" + name + ")", desk.pairs(name), 0);
        }
        desk = sentence(16, "How many ordered pairs (both of two, or one)");
        allCells(desk, 0);
        cell(desk, 11, 0, 0);
        due("pairs(3)", desk.pairs(WITHIN), 1);
        due("pairs(4)", desk.pairs(COVERING), 1);
        desk.cut(0, 0, 10);
        due("pairs(2)", desk.pairs(TOUCHING), 2);
        desk = sentence(16, "How many ordered pairs (all slots have the same shape)");
        for (int slot = 0; slot < 12; slot++) {
            allCells(desk, slot);
        }
        int[] equal = {132, 0, 0, 132, 132, 0, 0};
        for (int name = 0; name < 7; name++) {
            due("pairs(" + name + ")", desk.pairs(name), equal[name]);
        }
        desk = sentence(16, "How many ordered pairs (all slots have shapes apart)");
        for (int slot = 0; slot < 12; slot++) {
            desk.point(slot, slot);
        }
        int[] apart = {0, 132, 0, 0, 0, 0, 0};
        for (int name = 0; name < 7; name++) {
            due("pairs(" + name + ")", desk.pairs(name), apart[name]);
        }
    }

    private static void pieces() {
        TopologyDesk desk = sentence(17, "Into how many pieces a shape falls (one element)");
        desk.point(0, 80);
        desk.line(1, 79, 80);
        desk.rectangle(2, 70, 80);
        for (int slot = 0; slot < 3; slot++) {
            due("pieces(" + slot + ")", desk.pieces(slot), 1);
        }
        desk = sentence(17, "Into how many pieces a shape falls (all vertices)");
        allVertices(desk, 0);
        due("pieces(0)", desk.pieces(0), 81);
        desk = sentence(17, "Into how many pieces a shape falls (all edges, all cells)");
        allEdges(desk, 0);
        allCells(desk, 1);
        due("pieces(0)", desk.pieces(0), 1);
        due("pieces(1)", desk.pieces(1), 1);
        desk = sentence(17, "of the inside of an area (cells that have but a corner in common)");
        everySecondCell(desk, 0);
        due("pieces(0)", desk.pieces(0), 32);
        desk = sentence(17, "of the body of a line (ends that meet in the rim)");
        desk.line(0, v(4, 4), v(4, 5));
        desk.line(0, v(4, 4), v(5, 4));
        desk.line(0, v(4, 4), v(4, 3));
        due("pieces(0)", desk.pieces(0), 1);
        desk = sentence(17, "one of their coordinates different by 1 (no wrap-around to the next column)");
        desk.line(0, v(0, 7), v(0, 8));
        desk.line(0, v(0, 0), v(1, 0));
        due("pieces(0)", desk.pieces(0), 2);
        cell(desk, 1, 0, 7);
        cell(desk, 1, 1, 0);
        due("pieces(1)", desk.pieces(1), 2);
        desk = sentence(17, "one of their coordinates different by 1 (no wrap-around to the other side)");
        desk.line(0, v(0, 4), v(1, 4));
        desk.line(0, v(7, 4), v(8, 4));
        desk.line(0, v(4, 0), v(4, 1));
        desk.line(0, v(4, 7), v(4, 8));
        due("pieces(0)", desk.pieces(0), 4);
        desk = sentence(17, "one of their coordinates different by 1 (not by 2)");
        desk.rectangle(0, v(2, 2), v(6, 6));
        desk.outline(0, 0);
        desk.rectangle(1, v(3, 3), v(5, 5));
        desk.outline(1, 1);
        due("combine(0, 1, 0)", desk.combine(0, 1, 0), 24);
        due("pieces(0)", desk.pieces(0), 2);
        desk = sentence(17, "by steps .. all of them in the body (a long way about)");
        desk.rectangle(0, 0, 80);
        for (int x = 1; x < 8; x += 2) {
            desk.cut(0, v(x, x % 4 == 1 ? 0 : 1), v(x + 1, x % 4 == 1 ? 7 : 8));
        }
        due("size(0)", desk.size(0), 36);
        due("pieces(0)", desk.pieces(0), 1);
        cutCell(desk, 0, 3, 0);
        due("pieces(0)", desk.pieces(0), 2);
        piecesByEachWay();
        desk = sentence(17, "Into how many pieces a shape falls (whatever was asked before)");
        allEdges(desk, 0);
        desk.point(1, v(0, 0));
        desk.point(1, v(1, 0));
        due("pieces(0)", desk.pieces(0), 1);
        due("pieces(1)", desk.pieces(1), 2);
    }

    /** Three sides of a square, of cells and of edges, that are open to each of the four ways. */
    private static void piecesByEachWay() {
        int[] corners = {v(2, 2), v(6, 2), v(6, 6), v(2, 6)};
        int[][] sides = {{5, 3, 6, 5}, {3, 5, 5, 6}, {2, 3, 3, 5}, {3, 2, 5, 3}};
        for (int open = 0; open < 4; open++) {
            TopologyDesk desk = sentence(17,
                    "by steps .. i or j different by 1 (back again, open to way " + open + ")");
            desk.rectangle(0, v(2, 2), v(6, 6));
            desk.cut(0, v(3, 3), v(5, 5));
            int[] s = sides[open];
            desk.cut(0, v(s[0], s[1]), v(s[2], s[3]));
            for (int k = 1; k < 4; k++) {
                desk.line(1, corners[(open + k) % 4], corners[(open + k + 1) % 4]);
            }
            due("size(0)", desk.size(0), 10);
            due("size(1)", desk.size(1), 12);
            due("pieces(0)", desk.pieces(0), 1);
            due("pieces(1)", desk.pieces(1), 1);
        }
    }

    private static void holes() {
        TopologyDesk desk = sentence(18, "How many holes an area has (none)");
        cell(desk, 0, 4, 4);
        due("holes(0)", desk.holes(0), 0);
        allCells(desk, 0);
        due("holes(0)", desk.holes(0), 0);
        int[][] cells = {{0, 3, 0}, {7, 3, 0}, {3, 0, 0}, {3, 7, 0}, {0, 0, 0}, {7, 7, 0},
            {1, 3, 1}, {6, 3, 1}, {3, 1, 1}, {3, 6, 1}, {1, 1, 1}, {6, 6, 1}};
        for (int[] c : cells) {
            desk = sentence(18,
                    "no element (i, j) with i or j being 0 or 16 (cell " + c[0] + ", " + c[1] + ")");
            allCells(desk, 0);
            cutCell(desk, 0, c[0], c[1]);
            due("holes(0)", desk.holes(0), c[2]);
        }
        desk = sentence(18, "pieces (by such steps) (holes that have but a corner in common)");
        allCells(desk, 0);
        cutCell(desk, 0, 3, 3);
        cutCell(desk, 0, 4, 4);
        due("holes(0)", desk.holes(0), 2);
        cutCell(desk, 0, 3, 4);
        due("holes(0)", desk.holes(0), 1);
        desk = sentence(18,
                "pieces (by such steps) (a hole that has but a corner in common with what is no hole)");
        allCells(desk, 0);
        cutCell(desk, 0, 0, 3);
        cutCell(desk, 0, 1, 4);
        due("holes(0)", desk.holes(0), 1);
        cutCell(desk, 0, 1, 3);
        due("holes(0)", desk.holes(0), 0);
        desk = sentence(18, "How many holes an area has (the most)");
        everySecondCell(desk, 0);
        due("holes(0)", desk.holes(0), 18);
        desk = sentence(18, "How many holes an area has (closed by corners alone)");
        cell(desk, 0, 3, 4);
        cell(desk, 0, 5, 4);
        cell(desk, 0, 4, 3);
        due("holes(0)", desk.holes(0), 0);
        cell(desk, 0, 4, 5);
        due("holes(0)", desk.holes(0), 1);
    }

    private static void rim() {
        TopologyDesk desk = sentence(19, "How many edges are in the rim (the least)");
        cell(desk, 0, 0, 0);
        due("rim(0)", desk.rim(0), 4);
        desk = sentence(19, "How many edges are in the rim (the whole grid)");
        allCells(desk, 0);
        due("rim(0)", desk.rim(0), 32);
        desk = sentence(19, "How many edges are in the rim (the most)");
        everySecondCell(desk, 0);
        due("rim(0)", desk.rim(0), 128);
        desk = sentence(19, "How many edges are in the rim (of a hole too)");
        allCells(desk, 0);
        cutCell(desk, 0, 3, 3);
        due("rim(0)", desk.rim(0), 36);
    }

    private static void apart() {
        TopologyDesk desk = sentence(20, "the least distance (the greatest that there can be)");
        desk.point(0, 0);
        desk.point(1, 80);
        due("apart(0, 1)", desk.apart(0, 1), 128);
        due("apart(1, 0)", desk.apart(1, 0), 128);
        desk.point(2, 8);
        desk.point(3, 72);
        due("apart(2, 3)", desk.apart(2, 3), 128);
        due("apart(0, 2)", desk.apart(0, 2), 64);
        desk = sentence(20, "the least distance (0 if the bodies meet)");
        cell(desk, 0, 3, 3);
        cell(desk, 1, 4, 4);
        desk.point(2, v(4, 4));
        due("apart(0, 1)", desk.apart(0, 1), 0);
        due("apart(0, 2)", desk.apart(0, 2), 0);
        desk = sentence(20, "the least distance (0 to one that is all within)");
        allCells(desk, 0);
        desk.point(1, v(4, 4));
        desk.line(2, v(4, 4), v(4, 5));
        cell(desk, 3, 4, 4);
        for (int other = 1; other < 4; other++) {
            due("apart(0, " + other + ")", desk.apart(0, other), 0);
            due("apart(" + other + ", 0)", desk.apart(other, 0), 0);
        }
        desk = sentence(20, "(elements taken with their ends and edges)");
        desk.line(0, v(0, 0), v(0, 1));
        desk.line(1, v(1, 2), v(2, 2));
        due("apart(0, 1)", desk.apart(0, 1), 2);
        cell(desk, 2, 1, 2);
        due("apart(0, 2)", desk.apart(0, 2), 2);
        desk = sentence(20, "a point of one shape's body to one of the other's (of many, the nearest)");
        int[] columns = {0, 4, 8};
        for (int x : columns) {
            desk.point(0, v(x, x == 4 ? 3 : 0));
            desk.point(1, v(x, x == 4 ? 5 : 8));
        }
        due("apart(0, 1)", desk.apart(0, 1), 4);
        due("apart(1, 0)", desk.apart(1, 0), 4);
    }

    private static void nearest() {
        TopologyDesk desk = sentence(21, "The other slot with a shape (not itself, nor an empty one)");
        desk.point(4, 0);
        desk.point(11, 80);
        due("nearest(4)", desk.nearest(4), 11);
        due("nearest(11)", desk.nearest(11), 4);
        desk = sentence(21, "of several, the least (all slots are as near)");
        for (int slot = 0; slot < 12; slot++) {
            desk.point(slot, 40);
        }
        due("nearest(0)", desk.nearest(0), 1);
        for (int slot = 1; slot < 12; slot++) {
            due("nearest(" + slot + ")", desk.nearest(slot), 0);
        }
        desk = sentence(21, "of several, the least (a nearer one comes before, and after)");
        desk.point(0, v(8, 8));
        desk.point(5, v(0, 0));
        desk.point(6, v(0, 3));
        desk.point(7, v(3, 0));
        due("nearest(5)", desk.nearest(5), 6);
        desk.point(11, v(0, 2));
        due("nearest(5)", desk.nearest(5), 11);
        desk.point(2, v(2, 0));
        due("nearest(5)", desk.nearest(5), 2);
        desk = sentence(21, "nearest to a slot's shape (at the greatest distance)");
        desk.point(0, 0);
        desk.point(1, 80);
        due("nearest(0)", desk.nearest(0), 1);
        due("nearest(1)", desk.nearest(1), 0);
    }

    private static void inWindow() {
        TopologyDesk desk = sentence(22, "The k-th (0 for the first) of the slots, in rising order");
        for (int slot = 11; slot >= 0; slot--) {
            desk.point(slot, 40);
        }
        for (int k = 0; k < 12; k++) {
            due("inWindow(0, 80, " + k + ")", desk.inWindow(0, 80, k), k);
        }
        due("inWindow(0, 80, 12)", desk.inWindow(0, 80, 12), -7);
        due("inWindow(0, 80, -1)", desk.inWindow(0, 80, -1), -7);
        desk = sentence(22, "The k-th (of those in the window alone)");
        desk.point(3, 40);
        desk.point(5, 80);
        desk.point(11, 40);
        due("inWindow(40, 40, 0)", desk.inWindow(40, 40, 0), 3);
        due("inWindow(40, 40, 1)", desk.inWindow(40, 40, 1), 11);
        due("inWindow(40, 40, 2)", desk.inWindow(40, 40, 2), -7);
        windowLimits();
        windowAndAreas();
    }

    /** A point on each side and corner of a window from (2, 3) to (5, 7), and beside it. */
    private static void windowLimits() {
        TopologyDesk desk;
        int[][] in = {{2, 3}, {2, 7}, {5, 3}, {5, 7}, {2, 5}, {5, 5}, {3, 3}, {3, 7}, {4, 4}};
        int[][] out = {{1, 3}, {1, 7}, {6, 3}, {6, 7}, {2, 2}, {2, 8}, {5, 2}, {5, 8}, {1, 5}, {3, 8}};
        int[][] corners = {{2, 3, 5, 7}, {5, 7, 2, 3}, {2, 7, 5, 3}, {5, 3, 2, 7}};
        for (int[] c : corners) {
            int from = v(c[0], c[1]);
            int to = v(c[2], c[3]);
            String call = "inWindow(" + from + ", " + to + ", 0)";
            desk = sentence(22, "the closed rectangle with two vertices as opposite corners (" + from + ")");
            for (int[] p : out) {
                desk.point(0, v(p[0], p[1]));
            }
            due(call, desk.inWindow(from, to, 0), -7);
            for (int[] p : in) {
                desk.point(1, v(p[0], p[1]));
                due(call + " with a point at " + p[0] + ", " + p[1], desk.inWindow(from, to, 0), 1);
                desk.clear(1);
            }
        }
        desk = sentence(22, "(or segment, or point)");
        desk.line(0, v(4, 4), v(6, 4));
        due("a point at the end", desk.inWindow(v(4, 4), v(4, 4), 0), 0);
        due("a point on the line", desk.inWindow(v(5, 4), v(5, 4), 0), 0);
        due("a point beside it", desk.inWindow(v(7, 4), v(7, 4), 0), -7);
        due("a segment to the end", desk.inWindow(v(4, 4), v(4, 0), 0), 0);
        due("a segment across", desk.inWindow(v(5, 0), v(5, 8), 0), 0);
        due("a segment along", desk.inWindow(v(0, 4), v(8, 4), 0), 0);
        due("a segment beside it", desk.inWindow(v(0, 5), v(8, 5), 0), -7);
        due("a segment that ends ahead of it", desk.inWindow(v(0, 4), v(3, 4), 0), -7);
        desk = sentence(22, "with two vertices as opposite corners (the whole grid)");
        desk.point(0, 0);
        desk.point(1, 8);
        desk.point(2, 72);
        desk.point(3, 80);
        int[][] whole = {{0, 80}, {80, 0}, {8, 72}, {72, 8}};
        for (int[] w : whole) {
            due("inWindow(" + w[0] + ", " + w[1] + ", 3)", desk.inWindow(w[0], w[1], 3), 3);
        }
    }

    private static void windowAndAreas() {
        TopologyDesk desk = sentence(22, "a point of its body (a window all within an area)");
        allCells(desk, 0);
        due("a point", desk.inWindow(v(4, 4), v(4, 4), 0), 0);
        due("a segment", desk.inWindow(v(4, 4), v(4, 5), 0), 0);
        due("a cell", desk.inWindow(v(4, 4), v(5, 5), 0), 0);
        desk = sentence(22, "a point of its body (a window all within a hole)");
        allCells(desk, 0);
        desk.cut(0, v(2, 2), v(6, 6));
        due("a window apart from the rim", desk.inWindow(v(3, 3), v(5, 5), 0), -7);
        due("a window up to the rim", desk.inWindow(v(3, 3), v(5, 6), 0), 0);
        desk = sentence(22, "a point of its body (an area that has but a corner in the window)");
        cell(desk, 0, 3, 3);
        due("inWindow(40, 80, 0)", desk.inWindow(40, 80, 0), 0);
        due("inWindow(0, 30, 0)", desk.inWindow(0, 30, 0), 0);
        due("inWindow(50, 80, 0)", desk.inWindow(50, 80, 0), -7);
    }

    private static void oneSlotTwice() {
        int[] sizes = {81, 144, 64};
        for (int how = 0; how < 4; how++) {
            TopologyDesk desk = sentence(23, "combine .. may name one slot twice (how " + how + ")");
            allVertices(desk, 0);
            allEdges(desk, 1);
            allCells(desk, 2);
            desk.point(3, 80);
            for (int slot = 0; slot < 3; slot++) {
                due("combine(" + slot + ", " + slot + ", " + how + ")", desk.combine(slot, slot, how),
                        how < 2 ? sizes[slot] : 0);
                due("kind(" + slot + ")", desk.kind(slot), how < 2 ? slot + 1 : 0);
                due("size(" + slot + ")", desk.size(slot), how < 2 ? sizes[slot] : 0);
            }
            due("size(3)", desk.size(3), 1);
        }
        TopologyDesk desk = sentence(23, "relate .. may name one slot twice");
        desk.point(11, 80);
        dueRelate(desk, 11, 11, "100000003");
        desk.clear(11);
        desk.line(11, 79, 80);
        dueRelate(desk, 11, 11, "200010003");
        desk.clear(11);
        desk.rectangle(11, 70, 80);
        dueRelate(desk, 11, 11, "300020003");
        desk.outline(11, 11);
        dueRelate(desk, 11, 11, "200000003");
        desk = sentence(23, "is .. may name one slot twice");
        desk.point(0, 80);
        desk.line(1, 79, 80);
        desk.rectangle(2, 70, 80);
        int[] names = {1, 0, 0, 1, 1, 0, 0};
        for (int slot = 0; slot < 3; slot++) {
            for (int name = 0; name < 7; name++) {
                dueIs(desk, slot, slot, name, names[name]);
            }
        }
        desk = sentence(23, "apart may name one slot twice");
        desk.point(0, 80);
        desk.point(0, 0);
        desk.line(11, 79, 80);
        due("apart(0, 0)", desk.apart(0, 0), 0);
        due("apart(11, 11)", desk.apart(11, 11), 0);
    }

    private static void outlineInto() {
        for (int into = 0; into < 5; into++) {
            TopologyDesk desk = sentence(23,
                    "the slot 'into' may be empty or have a shape of any kind (" + into + ")");
            allVertices(desk, 0);
            allEdges(desk, 1);
            allCells(desk, 2);
            cell(desk, 4, 3, 3);
            due("outline(4, " + into + ")", desk.outline(4, into), 4);
            due("kind(" + into + ")", desk.kind(into), 2);
            due("size(" + into + ")", desk.size(into), 4);
            due("pieces(" + into + ")", desk.pieces(into), 1);
            duePart(desk, into, 7, 6, 0);
            duePart(desk, into, 6, 6, 0);
            duePart(desk, into, 7, 7, 2);
            duePart(desk, into, 0, 0, 2);
            duePart(desk, into, 16, 15, 2);
            due("kind(4)", desk.kind(4), into == 4 ? 2 : 3);
        }
    }

    public static void main(String[] args) {
        List<Runnable> groups = List.of(BoundaryTests::uses, BoundaryTests::grid, BoundaryTests::elements,
                BoundaryTests::slots, BoundaryTests::slotsSideBySide, BoundaryTests::shapesAreNotEmpty,
                BoundaryTests::partsOfPoints, BoundaryTests::partsOfLines, BoundaryTests::partsOfAreas,
                BoundaryTests::outsides, BoundaryTests::newObject, BoundaryTests::clear, BoundaryTests::point,
                BoundaryTests::line, BoundaryTests::rectangle, BoundaryTests::cut, BoundaryTests::combine,
                BoundaryTests::grow, BoundaryTests::fill, BoundaryTests::outline, BoundaryTests::kindAndSize,
                BoundaryTests::part, BoundaryTests::relate, BoundaryTests::equalAndApart,
                BoundaryTests::touching, BoundaryTests::withinAndCovering, BoundaryTests::crossing,
                BoundaryTests::overlapping, BoundaryTests::pairs, BoundaryTests::pieces, BoundaryTests::holes,
                BoundaryTests::rim, BoundaryTests::apart, BoundaryTests::nearest, BoundaryTests::inWindow,
                BoundaryTests::oneSlotTwice, BoundaryTests::outlineInto);
        for (Runnable group : groups) {
            try {
                group.run();
            } catch (ArrayIndexOutOfBoundsException | ArithmeticException e) {
                say("a call threw " + e);
            }
        }
        System.out.println(wrong == 0 ? sentences + " sentences hold" : wrong + " answers are not as due");
        if (wrong != 0) {
            System.exit(1);
        }
    }
}
