import java.util.ArrayDeque;
import java.util.ArrayList;
import java.util.Deque;
import java.util.HashSet;
import java.util.List;
import java.util.Set;
import java.util.TreeSet;

/**
 * Long fixed runs of calls, each answer compared with that of a second model,
 * which keeps bare sets of elements and works every answer out anew, from the
 * document's definitions.
 */
public final class ModelTests {
    private static final int RUNS = 400;
    private static final int CALLS = 512;
    private static final int PERFORATED = 6;
    private static final int CUTS = 16;

    record Element(int i, int j) {
        int dimension() {
            return i % 2 + j % 2;
        }

        boolean isOnBorder() {
            return i == 0 || j == 0 || i == 16 || j == 16;
        }

        List<Element> steps() {
            return List.of(new Element(i - 1, j), new Element(i + 1, j),
                    new Element(i, j - 1), new Element(i, j + 1));
        }

        /** The edges that end at this vertex, or the cells at this vertex or edge. */
        List<Element> around(int dimension) {
            List<Element> found = new ArrayList<>();
            for (int a = Math.max(0, i - 1); a <= Math.min(16, i + 1); a++) {
                for (int b = Math.max(0, j - 1); b <= Math.min(16, j + 1); b++) {
                    if (a % 2 + b % 2 == dimension) {
                        found.add(new Element(a, b));
                    }
                }
            }
            return found;
        }
    }

    static final List<Element> GRID = new ArrayList<>();
    static {
        for (int i = 0; i <= 16; i++) {
            for (int j = 0; j <= 16; j++) {
                GRID.add(new Element(i, j));
            }
        }
    }

    /** kind 1 points, 2 a line, 3 an area; the set is never changed. */
    record Shape(int kind, Set<Element> set) {
        int place(Element e) {
            if (kind == 1 || (kind == 2 && e.dimension() != 0)) {
                return set.contains(e) ? 0 : 2;
            }
            if (kind == 2) {
                int degree = count(e.around(1));
                return degree == 0 ? 2 : degree % 2;
            }
            int cells = count(e.around(2));
            switch (e.dimension()) {
                case 2:
                    return set.contains(e) ? 0 : 2;
                case 1:
                    return cells == 2 ? 0 : cells == 1 ? 1 : 2;
                default:
                    return cells == 4 ? 0 : cells > 0 ? 1 : 2;
            }
        }

        private int count(List<Element> elements) {
            int found = 0;
            for (Element e : elements) {
                if (set.contains(e)) {
                    found++;
                }
            }
            return found;
        }

        Set<Element> in(int... places) {
            Set<Element> found = new HashSet<>();
            for (Element e : GRID) {
                int place = place(e);
                for (int wanted : places) {
                    if (place == wanted) {
                        found.add(e);
                    }
                }
            }
            return found;
        }

        Set<Element> body() {
            return in(0, 1);
        }
    }

    static List<Set<Element>> piecesOf(Set<Element> elements) {
        Set<Element> left = new HashSet<>(elements);
        List<Set<Element>> pieces = new ArrayList<>();
        for (Element start : elements) {
            if (left.remove(start)) {
                Set<Element> piece = new HashSet<>();
                Deque<Element> waiting = new ArrayDeque<>();
                waiting.push(start);
                while (!waiting.isEmpty()) {
                    Element e = waiting.pop();
                    piece.add(e);
                    for (Element next : e.steps()) {
                        if (left.remove(next)) {
                            waiting.push(next);
                        }
                    }
                }
                pieces.add(piece);
            }
        }
        return pieces;
    }

    static Set<Element> common(Set<Element> a, Set<Element> b) {
        Set<Element> both = new HashSet<>(a);
        both.retainAll(b);
        return both;
    }

    static boolean meet(Set<Element> a, Set<Element> b) {
        return !common(a, b).isEmpty();
    }

    static int gap(int a, int b) {
        // Halves rounded down and up are the ends of the element with its rim.
        return Math.max(0, Math.max(a / 2 - (b + 1) / 2, b / 2 - (a + 1) / 2));
    }

    static final class Model {
        private final Shape[] shapes = new Shape[12];

        private static boolean noSlot(int slot) {
            return slot < 0 || slot > 11;
        }

        private static boolean noVertex(int vertex) {
            return vertex < 0 || vertex > 80;
        }

        private int put(int slot, int kind, Set<Element> set) {
            shapes[slot] = set.isEmpty() ? null : new Shape(kind, set);
            return set.size();
        }

        private Set<Element> setOf(int slot) {
            return shapes[slot] == null ? new HashSet<>() : new HashSet<>(shapes[slot].set());
        }

        private boolean hasOtherKind(int slot, int kind) {
            return shapes[slot] != null && shapes[slot].kind() != kind;
        }

        private int refuseArea(int slot) {
            return noSlot(slot) ? -1 : shapes[slot] == null ? -2 : shapes[slot].kind() != 3 ? -3 : 0;
        }

        private int refuseTwo(int slot, int other) {
            if (noSlot(slot) || noSlot(other)) {
                return -1;
            }
            return shapes[slot] == null || shapes[other] == null ? -2 : 0;
        }

        int clear(int slot) {
            int was = kind(slot);
            if (was > 0) {
                shapes[slot] = null;
            }
            return was;
        }

        int point(int slot, int vertex) {
            if (noSlot(slot)) {
                return -1;
            }
            if (hasOtherKind(slot, 1)) {
                return -3;
            }
            if (noVertex(vertex)) {
                return -4;
            }
            Set<Element> set = setOf(slot);
            set.add(new Element(vertex / 9 * 2, vertex % 9 * 2));
            return put(slot, 1, set);
        }

        int line(int slot, int from, int to) {
            if (noSlot(slot)) {
                return -1;
            }
            if (hasOtherKind(slot, 2)) {
                return -3;
            }
            if (noVertex(from) || noVertex(to)) {
                return -4;
            }
            int x = from / 9;
            int y = from % 9;
            int dx = Integer.signum(to / 9 - x);
            int dy = Integer.signum(to % 9 - y);
            if (dx * dx + dy * dy != 1) {
                return -5;
            }
            Set<Element> set = setOf(slot);
            while (9 * x + y != to) {
                set.add(new Element(2 * x + dx, 2 * y + dy));
                x += dx;
                y += dy;
            }
            return put(slot, 2, set);
        }

        /** The cells of a rectangle, or none if the vertices have a coordinate in common. */
        private static Set<Element> cells(int from, int to) {
            Set<Element> set = new HashSet<>();
            for (int x = Math.min(from / 9, to / 9); x < Math.max(from / 9, to / 9); x++) {
                for (int y = Math.min(from % 9, to % 9); y < Math.max(from % 9, to % 9); y++) {
                    set.add(new Element(2 * x + 1, 2 * y + 1));
                }
            }
            return set;
        }

        int rectangle(int slot, int from, int to) {
            if (noSlot(slot)) {
                return -1;
            }
            if (hasOtherKind(slot, 3)) {
                return -3;
            }
            if (noVertex(from) || noVertex(to)) {
                return -4;
            }
            Set<Element> cells = cells(from, to);
            if (cells.isEmpty()) {
                return -5;
            }
            cells.addAll(setOf(slot));
            return put(slot, 3, cells);
        }

        int cut(int slot, int from, int to) {
            int refusal = refuseArea(slot);
            if (refusal != 0) {
                return refusal;
            }
            if (noVertex(from) || noVertex(to)) {
                return -4;
            }
            Set<Element> cells = cells(from, to);
            if (cells.isEmpty()) {
                return -5;
            }
            Set<Element> set = setOf(slot);
            set.removeAll(cells);
            return put(slot, 3, set);
        }

        int combine(int slot, int other, int how) {
            int refusal = refuseTwo(slot, other);
            if (refusal != 0) {
                return refusal;
            }
            if (shapes[slot].kind() != shapes[other].kind()) {
                return -3;
            }
            if (how < 0 || how > 3) {
                return -6;
            }
            Set<Element> set = setOf(slot);
            Set<Element> both = common(set, setOf(other));
            if (how == 0 || how == 3) {
                set.addAll(setOf(other));
            }
            if (how == 1) {
                set = new HashSet<>(both);
            }
            if (how == 2 || how == 3) {
                set.removeAll(both);
            }
            return put(slot, shapes[slot].kind(), set);
        }

        int grow(int slot) {
            int refusal = refuseArea(slot);
            if (refusal != 0) {
                return refusal;
            }
            Set<Element> set = new HashSet<>();
            for (Element e : setOf(slot)) {
                for (int x = -2; x <= 2; x += 2) {
                    for (int y = -2; y <= 2; y += 2) {
                        Element cell = new Element(e.i() + x, e.j() + y);
                        if (GRID.contains(cell)) {
                            set.add(cell);
                        }
                    }
                }
            }
            return put(slot, 3, set);
        }

        private List<Set<Element>> holesOf(int slot) {
            List<Set<Element>> holes = piecesOf(shapes[slot].in(2));
            holes.removeIf(piece -> piece.stream().anyMatch(Element::isOnBorder));
            return holes;
        }

        int fill(int slot) {
            int refusal = refuseArea(slot);
            if (refusal != 0) {
                return refusal;
            }
            Set<Element> set = setOf(slot);
            for (Set<Element> hole : holesOf(slot)) {
                set.addAll(hole);
            }
            set.removeIf(e -> e.dimension() != 2);
            return put(slot, 3, set);
        }

        private Set<Element> rimEdges(int slot) {
            Set<Element> edges = shapes[slot].in(1);
            edges.removeIf(e -> e.dimension() != 1);
            return edges;
        }

        int outline(int slot, int into) {
            if (noSlot(slot) || noSlot(into)) {
                return -1;
            }
            int refusal = refuseArea(slot);
            return refusal != 0 ? refusal : put(into, 2, rimEdges(slot));
        }

        int kind(int slot) {
            return noSlot(slot) ? -1 : shapes[slot] == null ? 0 : shapes[slot].kind();
        }

        int size(int slot) {
            return noSlot(slot) ? -1 : setOf(slot).size();
        }

        int part(int slot, int i, int j) {
            if (noSlot(slot)) {
                return -1;
            }
            if (shapes[slot] == null) {
                return -2;
            }
            return GRID.contains(new Element(i, j)) ? shapes[slot].place(new Element(i, j)) : -4;
        }

        int relate(int slot, int other) {
            int refusal = refuseTwo(slot, other);
            if (refusal != 0) {
                return refusal;
            }
            StringBuilder digits = new StringBuilder();
            for (int first = 0; first < 3; first++) {
                for (int second = 0; second < 3; second++) {
                    int digit = first == 2 && second == 2 ? 3 : 0;
                    for (Element e : common(shapes[slot].in(first), shapes[other].in(second))) {
                        digit = Math.max(digit, e.dimension() + 1);
                    }
                    digits.append(digit);
                }
            }
            return Integer.parseInt(digits.toString(), 4);
        }

        int is(int slot, int other, int name) {
            int refusal = refuseTwo(slot, other);
            if (refusal != 0) {
                return refusal;
            }
            if (name < 0 || name > 6) {
                return -6;
            }
            return holds(shapes[slot], shapes[other], name) ? 1 : 0;
        }

        private static boolean holds(Shape a, Shape b, int name) {
            Set<Element> insides = common(a.in(0), b.in(0));
            int greater = Math.max(a.kind(), b.kind()) - 1;
            boolean haveGreatest = insides.stream().anyMatch(e -> e.dimension() == greater);
            switch (name) {
                case 0:
                    return a.body().equals(b.body());
                case 1:
                    return !meet(a.body(), b.body());
                case 2:
                    return meet(a.body(), b.body()) && insides.isEmpty();
                case 3:
                    return !insides.isEmpty() && !meet(a.body(), b.in(2));
                case 4:
                    return !meet(b.body(), a.in(2));
                case 5:
                    return !insides.isEmpty() && !haveGreatest && meet(a.in(0), b.in(2));
                default:
                    return a.kind() == b.kind() && haveGreatest
                            && meet(a.in(0), b.in(2)) && meet(b.in(0), a.in(2));
            }
        }

        int pairs(int name) {
            if (name < 0 || name > 6) {
                return -6;
            }
            int found = 0;
            for (int slot = 0; slot < 12; slot++) {
                for (int other = 0; other < 12; other++) {
                    if (slot != other && is(slot, other, name) == 1) {
                        found++;
                    }
                }
            }
            return found;
        }

        int pieces(int slot) {
            if (noSlot(slot)) {
                return -1;
            }
            if (shapes[slot] == null) {
                return -2;
            }
            Shape shape = shapes[slot];
            return piecesOf(shape.kind() == 3 ? shape.in(0) : shape.body()).size();
        }

        int holes(int slot) {
            int refusal = refuseArea(slot);
            return refusal != 0 ? refusal : holesOf(slot).size();
        }

        int rim(int slot) {
            int refusal = refuseArea(slot);
            return refusal != 0 ? refusal : rimEdges(slot).size();
        }

        int apart(int slot, int other) {
            int refusal = refuseTwo(slot, other);
            if (refusal != 0) {
                return refusal;
            }
            int least = Integer.MAX_VALUE;
            for (Element a : shapes[slot].set()) {
                for (Element b : shapes[other].set()) {
                    int x = gap(a.i(), b.i());
                    int y = gap(a.j(), b.j());
                    least = Math.min(least, x * x + y * y);
                }
            }
            return least;
        }

        int nearest(int slot) {
            if (noSlot(slot)) {
                return -1;
            }
            if (shapes[slot] == null) {
                return -2;
            }
            // By the square first and the slot then.
            TreeSet<Integer> ranks = new TreeSet<>();
            for (int other = 0; other < 12; other++) {
                if (other != slot && shapes[other] != null) {
                    ranks.add(apart(slot, other) * 12 + other);
                }
            }
            return ranks.isEmpty() ? -7 : ranks.first() % 12;
        }

        int inWindow(int from, int to, int k) {
            if (noVertex(from) || noVertex(to)) {
                return -4;
            }
            Set<Element> window = new HashSet<>();
            for (Element e : GRID) {
                int x = (to / 9 * 2 - e.i()) * (from / 9 * 2 - e.i());
                int y = (to % 9 * 2 - e.j()) * (from % 9 * 2 - e.j());
                if (x <= 0 && y <= 0) {
                    window.add(e);
                }
            }
            List<Integer> found = new ArrayList<>();
            for (int slot = 0; slot < 12; slot++) {
                if (shapes[slot] != null && meet(shapes[slot].body(), window)) {
                    found.add(slot);
                }
            }
            return k < 0 || k >= found.size() ? -7 : found.get(k);
        }
    }

    private static int wrong = 0;
    private static int calls = 0;
    private static long state = 1;

    /** A fixed sequence of numbers, so that each run of the tests is the same. */
    private static int pick(int bound) {
        state = state * 6364136223846793005L + 1442695040888963407L;
        return (int) ((state >>> 33) % bound);
    }

    private static int pickFrom(int low, int high) {
        return pick(50) == 0 ? (pick(2) == 0 ? low - 1 : high + 1) : low + pick(high - low + 1);
    }

    private static void due(int run, String call, int got, int want) {
        calls++;
        if (got != want) {
            wrong++;
            System.out.println("run " + run + ": " + call + " answered " + got + ", the model " + want);
        }
    }

    private static int pickVertex(int near) {
        if (near < 0 || near > 80 || pick(3) == 0) {
            return pickFrom(0, 80);
        }
        // Near ones and ones in the same row or column are wanted more often.
        int x = Math.max(0, Math.min(8, near / 9 + pick(5) - 2));
        int y = Math.max(0, Math.min(8, near % 9 + pick(5) - 2));
        int which = pick(4);
        return which == 0 ? 9 * (near / 9) + y : which == 1 ? 9 * x + near % 9 : 9 * x + y;
    }

    private static void rectangle(int run, TopologyDesk desk, Model model, int s, int a, int b) {
        due(run, "rectangle(" + s + ", " + a + ", " + b + ")",
                desk.rectangle(s, a, b), model.rectangle(s, a, b));
    }

    private static void cut(int run, TopologyDesk desk, Model model, int s, int a, int b) {
        due(run, "cut(" + s + ", " + a + ", " + b + ")", desk.cut(s, a, b), model.cut(s, a, b));
    }

    private static void fill(int run, TopologyDesk desk, Model model, int s) {
        due(run, "fill(" + s + ")", desk.fill(s), model.fill(s));
    }

    private static void pieces(int run, TopologyDesk desk, Model model, int s) {
        due(run, "pieces(" + s + ")", desk.pieces(s), model.pieces(s));
    }

    private static void holes(int run, TopologyDesk desk, Model model, int s) {
        due(run, "holes(" + s + ")", desk.holes(s), model.holes(s));
    }

    /** A great area with single cells cut out: calls by chance alone hardly ever leave a hole. */
    private static void perforate(int run, TopologyDesk desk, Model model, int s) {
        rectangle(run, desk, model, s, 9 * pick(3) + pick(3), 80 - 9 * pick(3) - pick(3));
        for (int cell = 0; cell < CUTS; cell++) {
            int corner = 9 * pick(8) + pick(8);
            cut(run, desk, model, s, corner, corner + 10);
        }
        holes(run, desk, model, s);
        pieces(run, desk, model, s);
        // The others keep their holes for the calls that follow.
        if (pick(2) == 0) {
            fill(run, desk, model, s);
            holes(run, desk, model, s);
        }
    }

    private static void change(int run, TopologyDesk desk, Model model) {
        int s = pickFrom(0, 11);
        int o = pick(8) == 0 ? s : pickFrom(0, 11);
        int a = pickVertex(-1);
        int b = pickVertex(a);
        int how = pickFrom(0, 3);
        switch (pick(24)) {
            case 0 -> due(run, "clear(" + s + ")", desk.clear(s), model.clear(s));
            case 1, 2, 3 -> due(run, "point(" + s + ", " + a + ")", desk.point(s, a), model.point(s, a));
            case 4, 5, 6, 7 -> due(run, "line(" + s + ", " + a + ", " + b + ")",
                    desk.line(s, a, b), model.line(s, a, b));
            case 8, 9, 10, 11 -> rectangle(run, desk, model, s, a, b);
            case 12, 13, 14, 15 -> cut(run, desk, model, s, a, b);
            case 16, 17, 18 -> due(run, "combine(" + s + ", " + o + ", " + how + ")",
                    desk.combine(s, o, how), model.combine(s, o, how));
            case 19 -> due(run, "grow(" + s + ")", desk.grow(s), model.grow(s));
            case 20, 21 -> fill(run, desk, model, s);
            default -> due(run, "outline(" + s + ", " + o + ")", desk.outline(s, o), model.outline(s, o));
        }
    }

    private static void ask(int run, TopologyDesk desk, Model model) {
        int s = pickFrom(0, 11);
        int o = pick(8) == 0 ? s : pickFrom(0, 11);
        int a = pickVertex(-1);
        int b = pickVertex(a);
        int i = pickFrom(0, 16);
        int j = pickFrom(0, 16);
        int name = pickFrom(0, 6);
        int k = pickFrom(0, 4);
        switch (pick(16)) {
            case 0 -> due(run, "kind(" + s + ")", desk.kind(s), model.kind(s));
            case 1 -> due(run, "size(" + s + ")", desk.size(s), model.size(s));
            case 2, 3 -> due(run, "part(" + s + ", " + i + ", " + j + ")",
                    desk.part(s, i, j), model.part(s, i, j));
            case 4, 5 -> due(run, "relate(" + s + ", " + o + ")", desk.relate(s, o), model.relate(s, o));
            case 6, 7, 8 -> due(run, "is(" + s + ", " + o + ", " + name + ")",
                    desk.is(s, o, name), model.is(s, o, name));
            case 9 -> pieces(run, desk, model, s);
            case 10, 11 -> holes(run, desk, model, s);
            case 12 -> due(run, "rim(" + s + ")", desk.rim(s), model.rim(s));
            case 13 -> due(run, "apart(" + s + ", " + o + ")", desk.apart(s, o), model.apart(s, o));
            case 14 -> due(run, "nearest(" + s + ")", desk.nearest(s), model.nearest(s));
            default -> due(run, "inWindow(" + a + ", " + b + ", " + k + ")",
                    desk.inWindow(a, b, k), model.inWindow(a, b, k));
        }
    }

    public static void main(String[] args) {
        for (int run = 0; run < RUNS && wrong < 20; run++) {
            TopologyDesk desk = new TopologyDesk();
            Model model = new Model();
            calls = 0;
            int perforated = run % 2 == 0 ? 0 : PERFORATED;
            for (int slot = 0; slot < perforated; slot++) {
                perforate(run, desk, model, 2 * slot);
            }
            while (calls < CALLS - 1) {
                if (pick(2) == 0) {
                    change(run, desk, model);
                } else {
                    ask(run, desk, model);
                }
            }
            // Costly to the model, so asked once a run only.
            int name = pickFrom(0, 6);
            due(run, "pairs(" + name + ")", desk.pairs(name), model.pairs(name));
        }
        System.out.println(wrong == 0 ? "all answers are as the model's"
                : wrong + " answers are not as the model's");
        if (wrong != 0) {
            System.exit(1);
        }
    }
}
