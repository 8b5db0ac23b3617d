import java.util.ArrayList;
import java.util.Arrays;
import java.util.List;

/**
 * Each sentence of the document that refuses a call: that the call answers as
 * due, changes nothing, and is not refused just within the limit. Then each
 * question: that it changes nothing.
 *
 * A call is written as in Java, with these words for numbers that are refused:
 * noSlot, noVertex, noElement, noHow, noName. Each stands for several numbers.
 */
public final class RefusalTests {
    private static final int MIN = Integer.MIN_VALUE;
    private static final int MAX = Integer.MAX_VALUE;
    // 17 times this number is 1 by wrap-around, so as a row, or squared as a
    // slot, it might be taken for one that is there.
    private static final int TURNED = -252645135;

    private static final int SLOTS = 12;
    private static final int ELEMENTS = 17 * 17;
    private static final int[][] FACTS = new int[SLOTS][ELEMENTS + 2];
    private static final int[][] LATER_FACTS = new int[SLOTS][ELEMENTS + 2];

    private static int wrong = 0;
    private static int sentences = 0;
    private static int promise = 0;
    private static String sentence = "";

    private static int[] numbersFor(String word) {
        switch (word) {
            case "noSlot":
                return outOf(SLOTS, TURNED * TURNED);
            case "noVertex":
                return outOf(81, 82);
            case "noElement":
                return outOf(17, TURNED);
            case "noHow":
                return outOf(4, 5);
            case "noName":
                return outOf(7, 8);
            default:
                return new int[] {Integer.parseInt(word)};
        }
    }

    /** Numbers that are not 0 to count - 1; 256 and 65536 would be 0 as a byte or a short. */
    private static int[] outOf(int count, int another) {
        return new int[] {-1, count, another, 256, 65536, MIN, MAX};
    }

    private record Call(String name, int[] numbers) {
        @Override
        public String toString() {
            StringBuilder text = new StringBuilder(name).append('(');
            for (int k = 0; k < numbers.length; k++) {
                text.append(k == 0 ? "" : ", ").append(numbers[k]);
            }
            return text.append(')').toString();
        }

        int on(TopologyDesk desk) {
            try {
                return make(desk);
            } catch (ArrayIndexOutOfBoundsException | ArithmeticException e) {
                say(this + " threw " + e);
                return MIN;
            }
        }

        private int make(TopologyDesk desk) {
            int[] n = numbers;
            switch (name) {
                case "clear":
                    return desk.clear(n[0]);
                case "point":
                    return desk.point(n[0], n[1]);
                case "line":
                    return desk.line(n[0], n[1], n[2]);
                case "rectangle":
                    return desk.rectangle(n[0], n[1], n[2]);
                case "cut":
                    return desk.cut(n[0], n[1], n[2]);
                case "combine":
                    return desk.combine(n[0], n[1], n[2]);
                case "grow":
                    return desk.grow(n[0]);
                case "fill":
                    return desk.fill(n[0]);
                case "outline":
                    return desk.outline(n[0], n[1]);
                default:
                    return askQuestion(desk);
            }
        }

        private int askQuestion(TopologyDesk desk) {
            int[] n = numbers;
            switch (name) {
                case "kind":
                    return desk.kind(n[0]);
                case "size":
                    return desk.size(n[0]);
                case "part":
                    return desk.part(n[0], n[1], n[2]);
                case "relate":
                    return desk.relate(n[0], n[1]);
                case "is":
                    return desk.is(n[0], n[1], n[2]);
                case "pairs":
                    return desk.pairs(n[0]);
                case "pieces":
                    return desk.pieces(n[0]);
                case "holes":
                    return desk.holes(n[0]);
                case "rim":
                    return desk.rim(n[0]);
                case "apart":
                    return desk.apart(n[0], n[1]);
                case "nearest":
                    return desk.nearest(n[0]);
                case "inWindow":
                    return desk.inWindow(n[0], n[1], n[2]);
                default:
                    throw new IllegalArgumentException(name);
            }
        }
    }

    /** All calls that a text stands for, by the words in it. */
    private static List<Call> callsOf(String text) {
        String name = text.substring(0, text.indexOf('('));
        String[] words = text.substring(text.indexOf('(') + 1, text.length() - 1).split(", ");
        List<Call> calls = new ArrayList<>();
        calls.add(new Call(name, new int[0]));
        for (String word : words) {
            List<Call> longer = new ArrayList<>();
            for (Call call : calls) {
                for (int number : numbersFor(word)) {
                    int[] numbers = Arrays.copyOf(call.numbers(), call.numbers().length + 1);
                    numbers[numbers.length - 1] = number;
                    longer.add(new Call(name, numbers));
                }
            }
            calls = longer;
        }
        return calls;
    }

    /**
     * Slots 0 and 9: points, 1 and 10: a line, 2 and 11: an area; 3 to 8 are
     * empty. The area in slot 2 has a hole.
     */
    private static TopologyDesk twoOfEachKind() {
        TopologyDesk desk = new TopologyDesk();
        desk.point(0, 10);
        desk.point(0, 57);
        desk.line(1, 0, 27);
        desk.line(1, 27, 29);
        desk.rectangle(2, 20, 60);
        desk.cut(2, 30, 40);
        desk.point(9, 79);
        desk.line(10, 70, 79);
        desk.line(10, 79, 80);
        desk.rectangle(11, 63, 73);
        return desk;
    }

    /** One of all the facts that can be asked about one slot alone. */
    private static int fact(TopologyDesk desk, int slot, int number) {
        if (number < ELEMENTS) {
            return desk.part(slot, number / 17, number % 17);
        }
        return number == ELEMENTS ? desk.size(slot) : desk.kind(slot);
    }

    /** Leaves a shape as it is, but brings out a change that is not to be seen yet. */
    private static void touch(TopologyDesk desk, int slot) {
        desk.combine(slot, slot, 0);
        desk.point(slot, 40);
    }

    /** Each fact is asked on an object of its own, as a question might change the next answer. */
    private static void keepFacts() {
        for (int slot = 0; slot < SLOTS; slot++) {
            for (int number = 0; number < ELEMENTS + 2; number++) {
                FACTS[slot][number] = fact(twoOfEachKind(), slot, number);
                TopologyDesk touched = twoOfEachKind();
                touch(touched, slot);
                LATER_FACTS[slot][number] = fact(touched, slot, number);
            }
        }
    }

    private static boolean hasFacts(TopologyDesk desk, int slot, int[] facts) {
        for (int number = 0; number < facts.length; number++) {
            if (fact(desk, slot, number) != facts[number]) {
                return false;
            }
        }
        return true;
    }

    private static void say(String what) {
        wrong++;
        String place = promise == 0 ? "terms" : "promise " + promise;
        System.out.println(place + ", \"" + sentence + "\": " + what);
    }

    private static void due(Call call, int got, int want) {
        if (got != want) {
            say(call + " answered " + got + ", due is " + want);
        }
    }

    /** Each slot is looked at after the call on an object of its own. */
    private static void dueUnchangedBy(Call call) {
        for (int slot = 0; slot < SLOTS; slot++) {
            TopologyDesk desk = twoOfEachKind();
            TopologyDesk touched = twoOfEachKind();
            call.on(desk);
            call.on(touched);
            touch(touched, slot);
            if (!hasFacts(desk, slot, FACTS[slot]) || !hasFacts(touched, slot, LATER_FACTS[slot])) {
                say(call + " changed slot " + slot);
            }
        }
    }

    private static void sentence(int number, String words) {
        promise = number;
        sentence = words;
        sentences++;
    }

    private static void refused(int want, String... texts) {
        for (String text : texts) {
            for (Call call : callsOf(text)) {
                due(call, call.on(twoOfEachKind()), want);
                dueUnchangedBy(call);
            }
        }
    }

    /** The calls of a run, of which the last one's answer is looked at. */
    private static void taken(int want, String... run) {
        TopologyDesk desk = twoOfEachKind();
        for (int k = 0; k < run.length - 1; k++) {
            callsOf(run[k]).get(0).on(desk);
        }
        Call last = callsOf(run[run.length - 1]).get(0);
        due(last, last.on(desk), want);
    }

    /** A start that is not as its comment says would make the refusals say little. */
    private static void start() {
        sentence(0, "There are 12 SLOTS, each EMPTY or with a SHAPE");
        int[] kinds = {1, 2, 3, 0, 0, 0, 0, 0, 0, 1, 2, 3};
        int[] sizes = {2, 5, 15, 0, 0, 0, 0, 0, 0, 1, 2, 1};
        for (int slot = 0; slot < SLOTS; slot++) {
            taken(kinds[slot], "kind(" + slot + ")");
            taken(sizes[slot], "size(" + slot + ")");
        }
    }

    private static void clear() {
        sentence(2, "Slot: -1.");
        refused(-1, "clear(noSlot)");
        taken(1, "clear(0)");
        taken(3, "clear(11)");
    }

    private static void point() {
        sentence(3, "Slot: -1; (ahead of the others)");
        refused(-1, "point(noSlot, 0)", "point(noSlot, noVertex)");
        taken(3, "point(0, 0)");
        taken(1, "clear(11)", "point(11, 0)");
        sentence(3, "another kind: -3; (ahead of vertex)");
        refused(-3, "point(1, 0)", "point(2, 0)", "point(10, 80)", "point(11, 80)");
        refused(-3, "point(1, noVertex)", "point(2, noVertex)");
        taken(1, "point(3, 0)");
        sentence(3, "vertex: -4.");
        refused(-4, "point(0, noVertex)", "point(3, noVertex)");
        taken(3, "point(0, 80)");
        taken(1, "point(3, 80)");
    }

    private static void line() {
        sentence(4, "Slot: -1; (ahead of the others)");
        refused(-1, "line(noSlot, 0, 8)", "line(noSlot, noVertex, 0)", "line(noSlot, 0, noVertex)");
        refused(-1, "line(noSlot, 40, 40)", "line(noSlot, 0, 10)");
        taken(8, "clear(0)", "line(0, 0, 8)");
        taken(8, "clear(11)", "line(11, 0, 8)");
        sentence(4, "another kind: -3; (ahead of vertices)");
        refused(-3, "line(0, 0, 8)", "line(2, 0, 8)", "line(9, 0, 8)", "line(11, 0, 8)");
        refused(-3, "line(0, noVertex, 0)", "line(2, 0, noVertex)", "line(2, noVertex, noVertex)");
        refused(-3, "line(0, 40, 40)", "line(2, 40, 40)", "line(0, 0, 10)", "line(2, 0, 10)");
        taken(8, "line(3, 0, 8)");
        taken(13, "line(1, 0, 8)");
        sentence(4, "vertices: -4; (ahead of -5)");
        refused(-4, "line(1, noVertex, 0)", "line(1, 0, noVertex)", "line(1, noVertex, noVertex)");
        refused(-4, "line(3, noVertex, 80)", "line(3, 80, noVertex)", "line(3, noVertex, noVertex)");
        refused(-4, "line(3, 72, 81)", "line(3, 1, -1)", "line(3, 81, 82)");
        taken(8, "line(3, 80, 72)");
        taken(8, "line(3, 8, 80)");
        taken(8, "line(3, 0, 72)");
        taken(8, "line(3, 8, 0)");
        sentence(4, "they are the same: -5.");
        refused(-5, "line(1, 0, 0)", "line(1, 28, 28)", "line(1, 80, 80)");
        refused(-5, "line(3, 0, 0)", "line(3, 40, 40)", "line(3, 80, 80)");
        taken(1, "line(3, 40, 41)");
        taken(1, "line(3, 40, 31)");
        sentence(4, "or differ in both coordinates: -5.");
        refused(-5, "line(1, 0, 10)", "line(1, 10, 0)", "line(1, 0, 80)", "line(1, 72, 8)");
        refused(-5, "line(3, 0, 10)", "line(3, 8, 16)", "line(3, 40, 50)");
        sentence(4, "or differ in both coordinates: -5. (numbers side by side, in two columns)");
        refused(-5, "line(3, 8, 9)", "line(3, 9, 8)", "line(1, 71, 72)");
    }

    private static void rectangle() {
        sentence(5, "Slot: -1; (ahead of the others)");
        refused(-1, "rectangle(noSlot, 0, 10)", "rectangle(noSlot, noVertex, 0)");
        refused(-1, "rectangle(noSlot, 0, noVertex)", "rectangle(noSlot, 40, 40)");
        taken(1, "clear(0)", "rectangle(0, 0, 10)");
        taken(2, "rectangle(11, 0, 10)");
        sentence(5, "another kind: -3; (ahead of vertices)");
        refused(-3, "rectangle(0, 0, 10)", "rectangle(1, 0, 10)", "rectangle(9, 0, 10)");
        refused(-3, "rectangle(10, 0, 10)", "rectangle(0, noVertex, 0)", "rectangle(1, 0, noVertex)");
        refused(-3, "rectangle(0, 40, 40)", "rectangle(1, 0, 8)", "rectangle(1, 0, 72)");
        taken(1, "rectangle(3, 0, 10)");
        taken(16, "rectangle(2, 0, 10)");
        sentence(5, "vertices: -4; (ahead of -5)");
        refused(-4, "rectangle(2, noVertex, 0)", "rectangle(2, 0, noVertex)");
        refused(-4, "rectangle(3, noVertex, 80)", "rectangle(3, 80, noVertex)");
        refused(-4, "rectangle(3, noVertex, noVertex)", "rectangle(3, 72, 81)", "rectangle(3, 71, 82)");
        taken(64, "rectangle(3, 0, 80)");
        taken(64, "rectangle(3, 80, 0)");
        sentence(5, "they have a coordinate in common: -5.");
        refused(-5, "rectangle(2, 40, 40)", "rectangle(3, 0, 0)", "rectangle(3, 80, 80)");
        refused(-5, "rectangle(2, 0, 8)", "rectangle(2, 0, 1)", "rectangle(3, 80, 72)");
        refused(-5, "rectangle(2, 0, 72)", "rectangle(2, 0, 9)", "rectangle(3, 80, 8)");
        taken(1, "rectangle(3, 40, 50)");
        taken(1, "rectangle(3, 40, 48)");
    }

    private static void cut() {
        sentence(6, "Slot: -1; (ahead of the others)");
        refused(-1, "cut(noSlot, 0, 10)", "cut(noSlot, noVertex, 0)", "cut(noSlot, 0, noVertex)");
        refused(-1, "cut(noSlot, 40, 40)");
        taken(0, "clear(0)", "rectangle(0, 0, 10)", "cut(0, 0, 10)");
        taken(0, "cut(11, 63, 73)");
        sentence(6, "empty: -2; (ahead of vertices)");
        refused(-2, "cut(3, 0, 10)", "cut(3, noVertex, 0)", "cut(3, 0, noVertex)", "cut(3, 40, 40)");
        sentence(6, "no area: -3; (ahead of vertices)");
        refused(-3, "cut(0, 0, 80)", "cut(1, 0, 80)", "cut(9, 0, 80)", "cut(10, 0, 80)");
        refused(-3, "cut(0, noVertex, 0)", "cut(1, 0, noVertex)", "cut(0, 40, 40)", "cut(1, 0, 8)");
        sentence(6, "vertices: -4; (ahead of -5)");
        refused(-4, "cut(2, noVertex, 0)", "cut(2, 0, noVertex)", "cut(2, noVertex, noVertex)");
        refused(-4, "cut(2, noVertex, 80)", "cut(2, 80, noVertex)", "cut(2, 72, 81)");
        taken(0, "cut(2, 0, 80)");
        taken(0, "cut(2, 80, 0)");
        sentence(6, "they have a coordinate in common: -5.");
        refused(-5, "cut(2, 40, 40)", "cut(2, 20, 24)", "cut(2, 20, 21)", "cut(2, 20, 56)");
        refused(-5, "cut(2, 20, 29)", "cut(2, 0, 0)", "cut(2, 80, 72)");
        taken(14, "cut(2, 20, 30)");
    }

    private static void combine() {
        sentence(7, "Slots: -1; (ahead of the others)");
        refused(-1, "combine(noSlot, 2, 0)", "combine(2, noSlot, 0)", "combine(noSlot, noSlot, 0)");
        refused(-1, "combine(noSlot, 3, 0)", "combine(3, noSlot, 0)");
        refused(-1, "combine(noSlot, 2, noHow)", "combine(2, noSlot, noHow)");
        taken(3, "combine(0, 9, 0)");
        taken(3, "combine(9, 0, 0)");
        taken(16, "combine(11, 2, 0)");
        taken(16, "combine(2, 11, 0)");
        sentence(7, "one is empty: -2; (ahead of the kinds and how)");
        refused(-2, "combine(3, 2, 0)", "combine(2, 3, 0)", "combine(2, 3, 2)", "combine(2, 3, 1)");
        refused(-2, "combine(3, 4, 0)", "combine(3, 3, 0)", "combine(3, 2, noHow)");
        refused(-2, "combine(2, 3, noHow)", "combine(3, 3, noHow)");
        sentence(7, "the shapes are of different kinds: -3; (ahead of how)");
        refused(-3, "combine(0, 1, 0)", "combine(1, 0, 1)", "combine(0, 2, 2)", "combine(2, 0, 3)");
        refused(-3, "combine(1, 2, 0)", "combine(2, 1, 1)", "combine(0, 1, noHow)");
        refused(-3, "combine(2, 1, noHow)", "combine(2, 0, noHow)");
        sentence(7, "how is not 0 to 3: -6.");
        refused(-6, "combine(0, 9, noHow)", "combine(1, 10, noHow)", "combine(2, 11, noHow)");
        refused(-6, "combine(2, 2, noHow)");
        taken(16, "combine(2, 11, 0)");
        taken(16, "combine(2, 11, 3)");
    }

    /** The calls that ask for an area and nothing else. */
    private static void callsOnAnArea() {
        String[] names = {"grow", "fill", "holes", "rim"};
        int[] promises = {8, 9, 18, 19};
        int[][] answers = {{36, 4}, {16, 1}, {1, 0}, {20, 4}};
        for (int k = 0; k < names.length; k++) {
            sentence(promises[k], "Slot: -1; (" + names[k] + ")");
            refused(-1, names[k] + "(noSlot)");
            taken(answers[k][1], "clear(0)", "rectangle(0, 0, 10)", names[k] + "(0)");
            taken(answers[k][1], names[k] + "(11)");
            sentence(promises[k], "empty: -2; (" + names[k] + ")");
            refused(-2, names[k] + "(3)", names[k] + "(8)");
            sentence(promises[k], "no area: -3. (" + names[k] + ")");
            refused(-3, names[k] + "(0)", names[k] + "(1)", names[k] + "(9)", names[k] + "(10)");
            taken(answers[k][0], names[k] + "(2)");
        }
    }

    private static void outline() {
        sentence(10, "Slots: -1; (ahead of the others)");
        refused(-1, "outline(noSlot, 3)", "outline(2, noSlot)", "outline(noSlot, noSlot)");
        refused(-1, "outline(3, noSlot)", "outline(0, noSlot)", "outline(1, noSlot)");
        taken(4, "outline(11, 0)");
        taken(4, "clear(0)", "rectangle(0, 0, 10)", "outline(0, 3)");
        taken(20, "outline(2, 11)");
        sentence(10, "slot is empty: -2; (into does not matter)");
        refused(-2, "outline(3, 2)", "outline(3, 3)", "outline(3, 4)", "outline(3, 0)");
        taken(20, "outline(2, 3)");
        sentence(10, "no area: -3. (into does not matter)");
        refused(-3, "outline(0, 2)", "outline(1, 2)", "outline(0, 0)", "outline(1, 1)");
        refused(-3, "outline(0, 3)", "outline(1, 3)");
    }

    private static void kindAndSize() {
        sentence(11, "slot: -1.");
        refused(-1, "kind(noSlot)");
        taken(1, "kind(0)");
        taken(3, "kind(11)");
        sentence(11, "0 for an empty slot");
        taken(0, "kind(3)");
        sentence(12, "slot: -1.");
        refused(-1, "size(noSlot)");
        taken(2, "size(0)");
        taken(1, "size(11)");
        sentence(12, "0 if it is empty");
        taken(0, "size(3)");
    }

    private static void part() {
        sentence(13, "Slot: -1; (ahead of the others)");
        refused(-1, "part(noSlot, 0, 0)", "part(noSlot, noElement, 0)", "part(noSlot, 0, noElement)");
        taken(0, "part(0, 2, 2)");
        taken(0, "part(11, 15, 1)");
        sentence(13, "empty: -2; (ahead of i and j)");
        refused(-2, "part(3, 0, 0)", "part(3, noElement, 0)", "part(3, 0, noElement)");
        sentence(13, "i or j is not 0 to 16: -4.");
        refused(-4, "part(0, noElement, 0)", "part(0, 0, noElement)", "part(0, noElement, noElement)");
        refused(-4, "part(1, noElement, 16)", "part(1, 16, noElement)");
        refused(-4, "part(2, noElement, 8)", "part(2, 8, noElement)");
        taken(1, "part(1, 0, 0)");
        taken(1, "part(10, 16, 16)");
        taken(1, "part(11, 16, 0)");
        taken(2, "part(2, 0, 16)");
        sentence(13, "i or j is not 0 to 16: -4. (both out by as much as would make up for it)");
        refused(-4, "part(2, 0, 17)", "part(2, 0, 288)", "part(2, 1, -1)", "part(2, 17, -17)");
        refused(-4, "part(2, -1, 17)", "part(1, -17, 289)");
    }

    /** The calls that ask for two shapes and, but for is, nothing else. */
    private static void callsOnTwoShapes() {
        String[] starts = {"relate(", "is(", "apart("};
        String[] ends = {")", ", 1)", ")"};
        int[] promises = {14, 15, 20};
        for (int k = 0; k < starts.length; k++) {
            String call = starts[k];
            String end = ends[k];
            sentence(promises[k], "Slots: -1; (ahead of the others: " + call + "..))");
            refused(-1, call + "noSlot, 2" + end, call + "2, noSlot" + end, call + "noSlot, noSlot" + end);
            refused(-1, call + "noSlot, 3" + end, call + "3, noSlot" + end);
            sentence(promises[k], "one is empty: -2. (" + call + "..))");
            refused(-2, call + "3, 2" + end, call + "2, 3" + end, call + "3, 4" + end);
            refused(-2, call + "3, 3" + end, call + "8, 0" + end, call + "0, 8" + end);
        }
        sentence(14, "Slots: -1; (0 and 11 are taken)");
        taken(Integer.parseInt("001000323", 4), "relate(0, 11)");
        taken(Integer.parseInt("003002103", 4), "relate(11, 0)");
        sentence(20, "Slots: -1; (0 and 11 are taken)");
        taken(5, "apart(0, 11)");
        taken(5, "apart(11, 0)");
    }

    private static void names() {
        sentence(15, "Slots: -1; one is empty: -2; (ahead of name)");
        refused(-1, "is(noSlot, 2, noName)", "is(2, noSlot, noName)");
        refused(-2, "is(3, 2, noName)", "is(2, 3, noName)", "is(3, 3, noName)");
        taken(1, "is(0, 11, 1)");
        taken(1, "is(11, 0, 1)");
        sentence(15, "name is not 0 to 6: -6.");
        refused(-6, "is(0, 11, noName)", "is(2, 2, noName)", "is(1, 2, noName)");
        taken(1, "is(2, 2, 0)");
        taken(0, "is(2, 2, 6)");
        sentence(16, "name is not 0 to 6: -6.");
        refused(-6, "pairs(noName)");
        taken(0, "pairs(0)");
        taken(0, "pairs(6)");
    }

    private static void piecesAndNearest() {
        sentence(17, "Slot: -1;");
        refused(-1, "pieces(noSlot)");
        taken(2, "pieces(0)");
        taken(1, "pieces(11)");
        sentence(17, "empty: -2.");
        refused(-2, "pieces(3)", "pieces(8)");
        sentence(21, "Slot: -1;");
        refused(-1, "nearest(noSlot)");
        taken(2, "nearest(0)");
        taken(1, "clear(1)", "clear(2)", "line(1, 0, 8)", "nearest(0)");
        taken(2, "nearest(11)");
        sentence(21, "empty: -2; (ahead of -7, and with other shapes there)");
        refused(-2, "nearest(3)", "nearest(8)");
        sentence(21, "there is no other shape: -7.");
        for (int slot = 0; slot < SLOTS; slot++) {
            TopologyDesk desk = new TopologyDesk();
            Call call = new Call("nearest", new int[] {slot});
            due(call, call.on(desk), -2);
            desk.point(slot, 0);
            due(call, call.on(desk), -7);
            desk.point(11 - slot, 80);
            due(call, call.on(desk), 11 - slot);
        }
    }

    private static void inWindow() {
        sentence(22, "Vertices: -4; (ahead of -7)");
        refused(-4, "inWindow(noVertex, 0, 0)", "inWindow(0, noVertex, 0)");
        refused(-4, "inWindow(noVertex, 80, 0)", "inWindow(80, noVertex, 0)");
        refused(-4, "inWindow(noVertex, noVertex, 0)", "inWindow(noVertex, 0, -1)");
        refused(-4, "inWindow(0, noVertex, 6)", "inWindow(72, 81, 0)");
        taken(1, "inWindow(0, 0, 0)");
        taken(10, "inWindow(80, 80, 0)");
        taken(0, "inWindow(0, 80, 0)");
        sentence(22, "there is none: -7. (too few)");
        refused(-7, "inWindow(0, 80, 6)", "inWindow(0, 80, 12)", "inWindow(0, 80, " + MAX + ")");
        refused(-7, "inWindow(0, 0, 1)", "inWindow(10, 10, 1)");
        taken(11, "inWindow(0, 80, 5)");
        sentence(22, "there is none: -7. (no shape there)");
        refused(-7, "inWindow(8, 8, 0)", "inWindow(8, 62, 0)", "inWindow(4, 8, 0)");
        sentence(22, "there is none: -7. (k below 0)");
        refused(-7, "inWindow(0, 80, -1)", "inWindow(0, 80, " + MIN + ")");
        sentence(22, "there is none: -7. (all slots are empty)");
        TopologyDesk desk = new TopologyDesk();
        Call call = callsOf("inWindow(0, 80, 0)").get(0);
        due(call, call.on(desk), -7);
    }

    private static void questions() {
        String[] questions = {"kind(1)", "kind(3)", "size(1)", "part(2, 5, 5)", "part(1, 0, 0)",
            "relate(0, 1)", "relate(2, 11)", "is(2, 11, 1)", "is(0, 0, 0)", "is(1, 2, 5)", "pairs(1)",
            "pairs(4)", "pieces(0)", "pieces(1)", "pieces(2)", "holes(2)", "rim(2)", "apart(0, 2)",
            "apart(2, 2)", "nearest(2)", "inWindow(0, 80, 2)", "inWindow(8, 8, 0)"};
        for (String question : questions) {
            sentence(0, "questions; they change nothing (" + question + ")");
            Call call = callsOf(question).get(0);
            dueUnchangedBy(call);
            for (String next : questions) {
                Call another = callsOf(next).get(0);
                TopologyDesk desk = twoOfEachKind();
                call.on(desk);
                due(another, another.on(desk), another.on(twoOfEachKind()));
            }
        }
    }

    public static void main(String[] args) {
        keepFacts();
        start();
        clear();
        point();
        line();
        rectangle();
        cut();
        combine();
        callsOnAnArea();
        outline();
        kindAndSize();
        part();
        callsOnTwoShapes();
        names();
        piecesAndNearest();
        inWindow();
        questions();
        System.out.println(wrong == 0 ? sentences + " sentences hold" : wrong + " answers are not as due");
        if (wrong != 0) {
            System.exit(1);
        }
    }
}
