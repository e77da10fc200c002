import java.util.Arrays;
import java.util.List;

/** The boundary cases that the promises name, promise by promise, a test for each sentence. */
public final class BoundariesTest {
    private static final int LEAST = Made.LEAST;
    private static final int GREATEST = Made.GREATEST;

    public static void main(String[] args) {
        newObjectAndSize();
        markAndStep();
        weaveMirrorAndScale();
        statesAndWeight();
        comparisons();
        rankTotalAndFirst();
        sums();
        Due.end();
    }

    private static void newObjectAndSize() {
        Due.sentence("1: Everything as said above.", BoundariesTest::newObject);
        Due.sentence("2: all its numbers become 0", BoundariesTest::sizeClears);
        Due.sentence("2: -1 if a is not good", BoundariesTest::sizeOfNone);
        Due.sentence("2: -2 if size is not in 1 .. 4", BoundariesTest::sizeOutside);
        Due.sentence("2: otherwise answers the size before", BoundariesTest::sizeBefore);
    }

    private static void newObject() {
        WeightedWords x = new WeightedWords();
        for (int a = 0; a < 3; a++) {
            Due.same("new: " + a, Due.numbers(x, a), List.of(1, 0, 0, 0, 0));
            Due.due("new: states(" + a + ")", x.states(a), 1);
            Due.due("new: rank(" + a + ")", x.rank(a), 0);
            Due.due("new: first(" + a + ")", x.first(a), 0);
            for (int code : new int[] {1, 2, 3, 1023}) {
                Due.due("new: weight(" + a + ", " + code + ")", x.weight(a, code), 0);
            }
            for (int n : new int[] {0, 1, 200}) {
                Due.due("new: total(" + a + ", " + n + ")", x.total(a, n), 0);
            }
            for (int b = 0; b < 3; b++) {
                Due.due("new: equivalent(" + a + ", " + b + ")", x.equivalent(a, b), 1);
                Due.due("new: difference(" + a + ", " + b + ")", x.difference(a, b), 0);
            }
        }
        Due.due("new: isSum(0, 1, 2)", x.isSum(0, 1, 2), 1);
    }

    private static void sizeClears() {
        for (int before = 1; before <= 4; before++) {
            for (int after = 1; after <= 4; after++) {
                WeightedWords x = new WeightedWords();
                Made.level(x, 1, before, 996);
                x.size(1, after);
                String call = "size(1, " + after + ") after " + before;
                Due.same(call, Due.numbers(x, 1), zeros(after));
                // A smaller size must not hide numbers that a greater one then shows again.
                x.size(1, 4);
                Due.same(call + " and then 4", Due.numbers(x, 1), zeros(4));
            }
        }
    }

    private static List<Integer> zeros(int size) {
        Integer[] numbers = new Integer[1 + 2 * size + 2 * size * size];
        Arrays.fill(numbers, 0);
        numbers[0] = size;
        return List.of(numbers);
    }

    private static void sizeOfNone() {
        for (int a : Made.NOT_AUTOMATA) {
            for (int size = 1; size <= 4; size++) {
                Due.due("size(" + a + ", " + size + ")", new WeightedWords().size(a, size), -1);
            }
        }
    }

    private static void sizeOutside() {
        for (int a = 0; a < 3; a++) {
            WeightedWords x = new WeightedWords();
            for (int size : new int[] {0, -1, -4, 5, 6, LEAST, GREATEST}) {
                Due.due("size(" + a + ", " + size + ")", x.size(a, size), -2);
            }
            Due.due("size(" + a + ", 1) is good", x.size(a, 1), 1);
            Due.due("size(" + a + ", 4) is good", x.size(a, 4), 1);
        }
    }

    private static void sizeBefore() {
        WeightedWords x = new WeightedWords();
        for (int a = 0; a < 3; a++) {
            int before = 1;
            for (int size : new int[] {1, 4, 4, 1, 2, 3, 2, 4, 3, 3, 1}) {
                Due.due("size(" + a + ", " + size + ")", x.size(a, size), before);
                before = size;
            }
        }
    }

    private static void markAndStep() {
        Due.sentence("3: Sets start (which 0) or end (which not 0) of a state.",
            BoundariesTest::markWhich);
        Due.sentence("3: -1 if a is not good", BoundariesTest::markOfNone);
        Due.sentence("3: -2 if q is not good", BoundariesTest::markOutside);
        Due.sentence("3: otherwise answers the number before", BoundariesTest::markBefore);
        Due.sentence("3: value is taken modulo 997 (never negative).",
            BoundariesTest::markWrapsAround);
        Due.sentence("4: route is 16 * letter + 4 * p + q.", BoundariesTest::stepRoutes);
        Due.sentence("4: -1 if a is not good", BoundariesTest::stepOfNone);
        Due.sentence("4: -2 if route is not 16 * letter + 4 * p + q for a good letter and states",
            BoundariesTest::stepOutside);
        Due.sentence("4: otherwise answers the number before", BoundariesTest::stepBefore);
        Due.sentence("4: value is taken modulo 997.", BoundariesTest::stepWrapsAround);
    }

    private static void markWhich() {
        for (int which : new int[] {1, -1, 2, 1 << 8, 1 << 16, LEAST, GREATEST}) {
            WeightedWords x = new WeightedWords();
            x.mark(0, 0, 0, 5);
            x.mark(0, 0, which, 7);
            Due.same("mark(0, 0, " + which + ", 7)", Due.numbers(x, 0), List.of(1, 5, 7, 0, 0));
        }
        for (int q = 0; q < 4; q++) {
            WeightedWords x = new WeightedWords();
            x.size(2, 4);
            x.mark(2, q, 0, 8);
            x.mark(2, q, 1, 9);
            Integer[] due = zeros(4).toArray(new Integer[0]);
            due[1 + 2 * q] = 8;
            due[2 + 2 * q] = 9;
            Due.same("start and end of " + q, Due.numbers(x, 2), List.of(due));
        }
    }

    private static void markOfNone() {
        for (int a : Made.NOT_AUTOMATA) {
            for (int which : new int[] {0, 1, LEAST, GREATEST}) {
                String call = "mark(" + a + ", 0, " + which + ", 5)";
                Due.due(call, new WeightedWords().mark(a, 0, which, 5), -1);
            }
        }
    }

    private static void markOutside() {
        for (int size = 1; size <= 4; size++) {
            WeightedWords x = new WeightedWords();
            x.size(1, size);
            for (int which = 0; which < 2; which++) {
                for (int q : new int[] {-1, -4, size, size + 1, 4, 5, LEAST, GREATEST}) {
                    String call = size + " states: mark(1, " + q + ", " + which + ", 5)";
                    Due.due(call, x.mark(1, q, which, 5), -2);
                }
                Due.due("state 0 of " + size, x.mark(1, 0, which, 0), 0);
                Due.due("the last of " + size, x.mark(1, size - 1, which, 0), 0);
            }
        }
    }

    private static void markBefore() {
        WeightedWords x = new WeightedWords();
        x.size(0, 4);
        for (int q = 0; q < 4; q++) {
            for (int which = 0; which < 2; which++) {
                int number = 900 + 10 * q + which;
                Due.due("at first", x.mark(0, q, which, number), 0);
                Due.due("then", x.mark(0, q, which, number), number);
                Due.due("the same again", x.mark(0, q, which, 0), number);
                Due.due("0 again", x.mark(0, q, which, 0), 0);
            }
        }
    }

    private static void markWrapsAround() {
        for (int which = 0; which < 2; which++) {
            WeightedWords x = new WeightedWords();
            int[] pairs = Made.VALUES_AND_RESTS;
            for (int i = 0; i < pairs.length; i += 2) {
                x.mark(0, 0, which, pairs[i]);
                Due.due("after mark by " + pairs[i], x.mark(0, 0, which, 0), pairs[i + 1]);
            }
        }
        WeightedWords x = new WeightedWords();
        x.mark(0, 0, 0, LEAST);
        x.mark(0, 0, 1, LEAST);
        Due.due("514 * 514", x.weight(0, 1), 514 * 514 % 997);
    }

    private static void stepRoutes() {
        for (int size = 1; size <= 4; size++) {
            for (int letter = 0; letter < 2; letter++) {
                for (int p = 0; p < size; p++) {
                    for (int q = 0; q < size; q++) {
                        stepGoesThere(size, letter, p, q);
                    }
                }
            }
        }
    }

    /** The step is seen by a walk: only the word of this letter has a weight. */
    private static void stepGoesThere(int size, int letter, int p, int q) {
        WeightedWords x = new WeightedWords();
        x.size(0, size);
        String route = size + " states, letter " + letter + " from " + p + " to " + q;
        Due.due(route, x.step(0, 16 * letter + 4 * p + q, 3), 0);
        x.mark(0, p, 0, 5);
        x.mark(0, q, 1, 7);
        Due.due(route + ", its letter", x.weight(0, 2 + letter), 105);
        Due.due(route + ", the other letter", x.weight(0, 3 - letter), 0);
    }

    private static void stepOfNone() {
        for (int a : Made.NOT_AUTOMATA) {
            for (int route : new int[] {0, 16, 31}) {
                Due.due("step(" + a + ", " + route + ", 5)",
                    new WeightedWords().step(a, route, 5), -1);
            }
        }
    }

    private static void stepOutside() {
        for (int size = 1; size <= 4; size++) {
            WeightedWords x = new WeightedWords();
            x.size(2, size);
            for (int route = -70; route <= 100; route++) {
                String call = size + " states: step(2, " + route + ", 0)";
                Due.due(call, x.step(2, route, 0), Made.isRoute(size, route) ? 0 : -2);
            }
            for (int route : new int[] {LEAST, LEAST + 1, LEAST + 16, GREATEST, GREATEST - 15,
                    1 << 16, 1 << 8, -(1 << 8)}) {
                String call = size + " states: step(2, " + route + ", 0)";
                Due.due(call, x.step(2, route, 0), -2);
            }
        }
    }

    private static void stepBefore() {
        WeightedWords x = new WeightedWords();
        x.size(1, 4);
        for (int route = 0; route < 32; route++) {
            Due.due("at first", x.step(1, route, 965 + route), 0);
        }
        for (int route = 0; route < 32; route++) {
            Due.due("then", x.step(1, route, 965 + route), 965 + route);
            Due.due("the same again", x.step(1, route, 0), 965 + route);
            Due.due("0 again", x.step(1, route, 0), 0);
        }
    }

    private static void stepWrapsAround() {
        for (int letter = 0; letter < 2; letter++) {
            WeightedWords x = new WeightedWords();
            int[] pairs = Made.VALUES_AND_RESTS;
            for (int i = 0; i < pairs.length; i += 2) {
                x.step(2, 16 * letter, pairs[i]);
                Due.due("after step by " + pairs[i], x.step(2, 16 * letter, 0), pairs[i + 1]);
            }
        }
    }

    private static void weaveMirrorAndScale() {
        Due.sentence("5: Fills all numbers of an automaton", BoundariesTest::weaveFillsAll);
        Due.sentence("5: all modulo 997", BoundariesTest::weaveWrapsAround);
        Due.sentence("5: but 0 for the steps with (p + 2 * q + c + seed) modulo 3 = 0",
            BoundariesTest::weaveLeavesOut);
        Due.sentence("5: -1 if a is not good", BoundariesTest::weaveOfNone);
        Due.sentence("5: -2 if seed is not in 0 .. 996; otherwise 0",
            BoundariesTest::weaveOutside);
        Due.sentence("6: state q of b becomes state size - 1 - q", BoundariesTest::mirrorTurns);
        Due.sentence("6: -1 if a or b is not good", BoundariesTest::mirrorOfNone);
        Due.sentence("6: -2 if they are the same; otherwise 0", BoundariesTest::mirrorOfItself);
        Due.sentence("7: the one whose weights are those of b times factor (modulo 997)",
            BoundariesTest::scaleWeights);
        Due.sentence("7: a copy of b with all start numbers times factor",
            BoundariesTest::scaleCopies);
        Due.sentence("7: -1 if a or b is not good", BoundariesTest::scaleOfNone);
        Due.sentence("7: otherwise 0", BoundariesTest::scaleIsNotRefused);
    }

    /** With one state there are four numbers, with four states forty; none stays as it was. */
    private static void weaveFillsAll() {
        for (int size = 1; size <= 4; size++) {
            WeightedWords x = new WeightedWords();
            WeightedWords y = new WeightedWords();
            Made.level(x, 1, size, 500);
            y.size(1, size);
            Due.due("weave over 500", x.weave(1, 0), 0);
            Due.due("weave over 0", y.weave(1, 0), 0);
            Due.same("weave over 500 as over 0", Due.numbers(x, 1), Due.numbers(y, 1));
            Due.due("the size stays", x.states(1), size);
        }
        WeightedWords x = new WeightedWords();
        Made.level(x, 2, 4, 500);
        x.weave(2, 0);
        Due.same("seed 0", Due.numbers(x, 2), List.of(4, 0, 1, 1, 1, 2, 1, 3, 1,
            0, 3, 6, 0, 0, 0, 6, 9, 0, 3, 0, 9, 0, 3, 6, 0,
            0, 0, 8, 12, 1, 5, 0, 13, 0, 6, 10, 0, 3, 0, 11, 15));
    }

    private static void weaveWrapsAround() {
        WeightedWords x = new WeightedWords();
        x.size(0, 4);
        x.weave(0, 996);
        Due.same("seed 996", Due.numbers(x, 0), List.of(4, 996, 1, 0, 0, 1, 996, 2, 995,
            0, 2, 5, 0, 995, 0, 4, 7, 994, 0, 0, 6, 0, 996, 2, 0,
            996, 0, 7, 11, 996, 3, 0, 11, 0, 3, 7, 0, 996, 0, 7, 11));
    }

    private static void weaveLeavesOut() {
        for (int seed : new int[] {0, 1, 2, 3, 498, 994, 995, 996}) {
            WeightedWords x = new WeightedWords();
            Made.level(x, 0, 4, 500);
            x.weave(0, seed);
            for (int c = 0; c < 2; c++) {
                for (int p = 0; p < 4; p++) {
                    for (int q = 0; q < 4; q++) {
                        int due = (seed * (p + 1) + 3 * q + c * (p + q)) % 997;
                        if ((p + 2 * q + c + seed) % 3 == 0) {
                            due = 0;
                        }
                        String step = "seed " + seed + ": step(" + c + ", " + p + ", " + q + ")";
                        Due.due(step, x.step(0, 16 * c + 4 * p + q, 0), due);
                    }
                }
            }
        }
    }

    private static void weaveOfNone() {
        for (int a : Made.NOT_AUTOMATA) {
            for (int seed : new int[] {0, 1, 996}) {
                Due.due("weave(" + a + ", " + seed + ")",
                    new WeightedWords().weave(a, seed), -1);
            }
        }
    }

    private static void weaveOutside() {
        for (int a = 0; a < 3; a++) {
            WeightedWords x = new WeightedWords();
            for (int seed : new int[] {-1, -996, -997, 997, 998, 1994, LEAST, GREATEST}) {
                Due.due("weave(" + a + ", " + seed + ")", x.weave(a, seed), -2);
            }
            Due.due("weave(" + a + ", 0) is good", x.weave(a, 0), 0);
            Due.due("weave(" + a + ", 996) is good", x.weave(a, 996), 0);
        }
    }

    /** Onto an automaton that had fewer states, as many, or more, each with other numbers. */
    private static void mirrorTurns() {
        for (int size = 1; size <= 4; size++) {
            for (int before = 1; before <= 4; before++) {
                WeightedWords x = new WeightedWords();
                x.size(2, size);
                x.weave(2, 100);
                Made.level(x, 0, before, 500);
                String call = "mirror(0, 2) of " + size + " onto " + before;
                Due.due(call, x.mirror(0, 2), 0);
                Due.due(call + ", equivalent", x.equivalent(0, 2), 1);
                List<Integer> from = Due.numbers(x, 2);
                List<Integer> to = Due.numbers(x, 0);
                Due.same(call, to, turned(from, size));
            }
        }
    }

    private static List<Integer> turned(List<Integer> from, int size) {
        Integer[] to = new Integer[from.size()];
        to[0] = size;
        int last = size - 1;
        for (int p = 0; p < size; p++) {
            to[1 + 2 * (last - p)] = from.get(1 + 2 * p);
            to[2 + 2 * (last - p)] = from.get(2 + 2 * p);
            for (int c = 0; c < 2; c++) {
                int base = 1 + 2 * size + c * size * size;
                for (int q = 0; q < size; q++) {
                    to[base + size * (last - p) + last - q] = from.get(base + size * p + q);
                }
            }
        }
        return List.of(to);
    }

    private static void mirrorOfNone() {
        for (int bad : Made.NOT_AUTOMATA) {
            for (int good = 0; good < 3; good++) {
                WeightedWords x = new WeightedWords();
                Due.due("mirror(" + bad + ", " + good + ")", x.mirror(bad, good), -1);
                Due.due("mirror(" + good + ", " + bad + ")", x.mirror(good, bad), -1);
            }
            for (int other : Made.NOT_AUTOMATA) {
                Due.due("mirror(" + bad + ", " + other + ")",
                    new WeightedWords().mirror(bad, other), -1);
            }
        }
    }

    private static void mirrorOfItself() {
        for (int a = 0; a < 3; a++) {
            for (int b = 0; b < 3; b++) {
                Due.due("mirror(" + a + ", " + b + ")",
                    new WeightedWords().mirror(a, b), a == b ? -2 : 0);
            }
        }
    }

    /** Starts of 996 as well as 1: times the greatest int they go beyond the range of int. */
    private static void scaleWeights() {
        int[] pairs = Made.VALUES_AND_RESTS;
        for (int i = 0; i < pairs.length; i += 2) {
            scaleWeights(1, pairs[i], pairs[i + 1]);
            scaleWeights(996, pairs[i], pairs[i + 1]);
        }
    }

    private static void scaleWeights(int start, int factor, int rest) {
        WeightedWords x = new WeightedWords();
        Made.codes(x, 0);
        x.mark(0, 0, 0, start);
        x.mark(0, 1, 0, start);
        Due.due("scale(1, 0, " + factor + ")", x.scale(1, 0, factor), 0);
        for (int code : new int[] {1, 2, 3, 15, 511, 996, 997, 998, 1023}) {
            int weight = code * start % 997;
            Due.due("b keeps " + weight, x.weight(0, code), weight);
            Due.due(factor + " times " + weight, x.weight(1, code), weight * rest % 997);
        }
    }

    /** Onto an automaton of any size, and onto itself. */
    private static void scaleCopies() {
        for (int size = 1; size <= 4; size++) {
            for (int before = 1; before <= 4; before++) {
                for (int b = 1; b <= 2; b++) {
                    WeightedWords x = new WeightedWords();
                    Made.level(x, 2, before, 500);
                    x.size(b, size);
                    x.weave(b, 996);
                    List<Integer> from = Due.numbers(x, b);
                    Integer[] due = from.toArray(new Integer[0]);
                    for (int q = 0; q < size; q++) {
                        due[1 + 2 * q] = due[1 + 2 * q] * 996 % 997;
                    }
                    String call = "scale(2, " + b + ", -1) of " + size + " onto " + before;
                    Due.due(call, x.scale(2, b, -1), 0);
                    Due.same(call, Due.numbers(x, 2), List.of(due));
                    Due.same(call + ", b", Due.numbers(x, b), b == 2 ? List.of(due) : from);
                }
            }
        }
    }

    private static void scaleOfNone() {
        for (int bad : Made.NOT_AUTOMATA) {
            for (int factor : new int[] {0, 1, LEAST, GREATEST}) {
                WeightedWords x = new WeightedWords();
                for (int good = 0; good < 3; good++) {
                    String with = " with " + bad + ", " + good + ", " + factor;
                    Due.due("scale a bad" + with, x.scale(bad, good, factor), -1);
                    Due.due("scale b bad" + with, x.scale(good, bad, factor), -1);
                    Due.due("scale good" + with, x.scale(good, 2 - good, factor), 0);
                }
                Due.due("scale twice " + bad, x.scale(bad, bad, factor), -1);
            }
        }
    }

    /** No factor and no two good automata are refused, nor one automaton in both places. */
    private static void scaleIsNotRefused() {
        int[] pairs = Made.VALUES_AND_RESTS;
        for (int a = 0; a < 3; a++) {
            for (int b = 0; b < 3; b++) {
                for (int i = 0; i < pairs.length; i += 2) {
                    WeightedWords x = new WeightedWords();
                    Made.codes(x, b);
                    String call = "scale(" + a + ", " + b + ", " + pairs[i] + ")";
                    Due.due(call, x.scale(a, b, pairs[i]), 0);
                    Due.due(call + ", states", x.states(a), 2);
                    Due.due(call + ", code 1", x.weight(a, 1), pairs[i + 1]);
                    Due.due(call + ", code 1023", x.weight(a, 1023), 26 * pairs[i + 1] % 997);
                }
            }
        }
    }

    private static void statesAndWeight() {
        Due.sentence("8: How many states an automaton has; -1 if a is not good.",
            BoundariesTest::statesOfNone);
        Due.sentence("9: -1 if a is not good", BoundariesTest::weightOfNone);
        Due.sentence("9: -2 if code is not good", BoundariesTest::weightOutside);
        Due.sentence("9: The weight of the word with this code.", BoundariesTest::weightOfEnds);
    }

    private static void statesOfNone() {
        for (int a = 0; a < 3; a++) {
            for (int size = 1; size <= 4; size++) {
                WeightedWords x = new WeightedWords();
                x.size(a, size);
                Due.due("states(" + a + ")", x.states(a), size);
                for (int bad : Made.NOT_AUTOMATA) {
                    Due.due("states(" + bad + ")", x.states(bad), -1);
                }
            }
        }
    }

    private static void weightOfNone() {
        for (int a : Made.NOT_AUTOMATA) {
            for (int code : new int[] {1, 2, 1023}) {
                Due.due("weight(" + a + ", " + code + ")",
                    new WeightedWords().weight(a, code), -1);
            }
        }
    }

    private static void weightOutside() {
        for (int size = 1; size <= 4; size++) {
            WeightedWords x = new WeightedWords();
            Made.level(x, 1, size, 1);
            for (int code : new int[] {0, -1, -2, -1023, -1024, 1024, 1025, 2048, 4096,
                    1 << 16, LEAST, LEAST + 1, GREATEST, GREATEST - 1}) {
                Due.due("weight(1, " + code + ")", x.weight(1, code), -2);
            }
            Due.due("weight(1, 1) is good", x.weight(1, 1), size);
            Due.due("weight(1, 1023) is good", x.weight(1, 1023), Made.power(size, 10));
        }
    }

    /** The least and the greatest word of each length, the empty one among them. */
    private static void weightOfEnds() {
        WeightedWords x = new WeightedWords();
        Made.twoThree(x, 0);
        for (int length = 0; length <= 9; length++) {
            int zeros = 5 * Made.power(2, length) % 997;
            int ones = 5 * Made.power(3, length) % 997;
            Due.due(length + " zeros", x.weight(0, 1 << length), zeros);
            Due.due(length + " ones", x.weight(0, (2 << length) - 1), ones);
        }
        Due.due("000000001", x.weight(0, 513), 5 * Made.power(2, 8) * 3 % 997);
        Due.due("111111110", x.weight(0, 1022), 5 * Made.power(3, 8) * 2 % 997);
    }

    private static void comparisons() {
        Due.sentence("10: 1 if the automata are equivalent, otherwise 0",
            BoundariesTest::equivalentOrNot);
        Due.sentence("10: -1 if a or b is not good", BoundariesTest::equivalentOfNone);
        Due.sentence("10: (They are if all words of at most 7 letters have the same weights in"
            + " both.)", BoundariesTest::equivalentToSevenLetters);
        Due.sentence("11: The least code of a word that has different weights in the two"
            + " automata", BoundariesTest::differenceIsLeast);
        Due.sentence("11: 0 if they are equivalent", BoundariesTest::differenceOfNothing);
        Due.sentence("11: -1 if a or b is not good", BoundariesTest::differenceOfNone);
    }

    private static void equivalentOrNot() {
        for (int a = 0; a < 3; a++) {
            for (int b = 0; b < 3; b++) {
                WeightedWords x = new WeightedWords();
                Made.level(x, a, 4, 996);
                Due.due("one filled", x.equivalent(a, b), a == b ? 1 : 0);
                Due.due("one filled, turned", x.equivalent(b, a), a == b ? 1 : 0);
                x.scale(b, a, 1);
                Due.due("a copy", x.equivalent(a, b), 1);
            }
        }
        equivalentWithOtherStates();
    }

    /** Size 1 and 4, and numbers that no word meets, make no difference. */
    private static void equivalentWithOtherStates() {
        WeightedWords x = new WeightedWords();
        Made.twoThree(x, 0);
        x.size(1, 4);
        x.mark(1, 3, 0, 5);
        x.mark(1, 3, 1, 1);
        x.step(1, 15, 2);
        x.step(1, 31, 3);
        x.mark(1, 0, 1, 9);
        x.mark(1, 1, 0, 9);
        Due.due("one state and four", x.equivalent(0, 1), 1);
        Due.due("four states and one", x.equivalent(1, 0), 1);
        x.size(2, 4);
        Due.due("no weights in one and in four", x.equivalent(2, 0), 0);
        x.size(0, 1);
        Due.due("no weights at all", x.equivalent(2, 0), 1);
        Made.emptyWord(x, 0, 996);
        Due.due("the empty word alone", x.equivalent(2, 0), 0);
        x.mark(2, 3, 0, 996);
        x.mark(2, 3, 1, 1);
        Due.due("996 by other numbers", x.equivalent(2, 0), 1);
    }

    private static void equivalentOfNone() {
        for (int bad : Made.NOT_AUTOMATA) {
            for (int good = 0; good < 3; good++) {
                WeightedWords x = new WeightedWords();
                Due.due("equivalent(" + bad + ", " + good + ")", x.equivalent(bad, good), -1);
                Due.due("equivalent(" + good + ", " + bad + ")", x.equivalent(good, bad), -1);
            }
            Due.due("equivalent twice " + bad, new WeightedWords().equivalent(bad, bad), -1);
        }
    }

    /** Rings that agree on all words of six letters, and part on just one of seven. */
    private static void equivalentToSevenLetters() {
        for (int letters = 0; letters < 16; letters++) {
            WeightedWords x = new WeightedWords();
            Made.ring(x, 0, letters, 1, 1);
            Made.ring(x, 1, letters, 1, 2);
            for (int code = 1; code <= 127; code++) {
                Due.due("alike on " + code, x.weight(1, code), x.weight(0, code));
            }
            Due.due("rings " + letters, x.equivalent(0, 1), 0);
            x.step(1, 16 * (letters & 1) + 12, 1);
            Due.due("rings " + letters + " made alike", x.equivalent(0, 1), 1);
        }
    }

    private static void differenceIsLeast() {
        for (int letters = 0; letters < 16; letters++) {
            WeightedWords x = new WeightedWords();
            Made.ring(x, 0, letters, 1, 1);
            Made.ring(x, 1, letters, 1, 2);
            int seven = Made.ringCode(letters, 7);
            Due.due("seven letters, " + letters, x.difference(0, 1), seven);
            Due.due("seven letters, turned", x.difference(1, 0), seven);
            Due.due("three letters, " + letters, x.difference(0, 2), Made.ringCode(letters, 3));
            Made.emptyWord(x, 2, 1);
            Due.due("the empty word", x.difference(0, 2), 1);
            Due.due("the empty word, turned", x.difference(2, 0), 1);
        }
        WeightedWords x = new WeightedWords();
        Made.twoThree(x, 0);
        Made.twoThree(x, 1);
        x.step(1, 16, 4);
        Due.due("the word 1", x.difference(0, 1), 3);
        x.step(1, 0, 4);
        Due.due("the word 0", x.difference(0, 1), 2);
    }

    private static void differenceOfNothing() {
        WeightedWords x = new WeightedWords();
        Made.codes(x, 0);
        x.mirror(1, 0);
        x.scale(2, 0, 998);
        for (int a = 0; a < 3; a++) {
            for (int b = 0; b < 3; b++) {
                Due.due("difference(" + a + ", " + b + ")", x.difference(a, b), 0);
            }
        }
        x.scale(2, 0, 996);
        Due.due("by 996 instead of 1", x.difference(0, 2), 1);
    }

    private static void differenceOfNone() {
        for (int bad : Made.NOT_AUTOMATA) {
            for (int good = 0; good < 3; good++) {
                WeightedWords x = new WeightedWords();
                Due.due("difference(" + bad + ", " + good + ")", x.difference(bad, good), -1);
                Due.due("difference(" + good + ", " + bad + ")", x.difference(good, bad), -1);
            }
            Due.due("difference twice " + bad, new WeightedWords().difference(bad, bad), -1);
        }
    }

    private static void rankTotalAndFirst() {
        Due.sentence("12: The rank of an automaton", BoundariesTest::rankFromNoneToFour);
        Due.sentence("12: -1 if a is not good", BoundariesTest::rankOfNone);
        Due.sentence("13: The sum of the weights of all words of just n letters, modulo 997.",
            BoundariesTest::totalOfLengths);
        Due.sentence("13: -1 if a is not good", BoundariesTest::totalOfNone);
        Due.sentence("13: -2 if n is not in 0 .. 200", BoundariesTest::totalOutside);
        Due.sentence("14: The least code of a word whose weight is not 0",
            BoundariesTest::firstIsLeast);
        Due.sentence("14: 0 if all words have weight 0", BoundariesTest::firstOfNothing);
        Due.sentence("14: -1 if a is not good", BoundariesTest::firstOfNone);
    }

    /** Loops by different numbers: each that starts and ends adds one to the rank. */
    private static void rankFromNoneToFour() {
        for (int a = 0; a < 3; a++) {
            for (int letter = 0; letter < 2; letter++) {
                WeightedWords x = new WeightedWords();
                x.size(a, 4);
                for (int q = 0; q < 4; q++) {
                    Due.due("rank by " + q + " loops", x.rank(a), q);
                    x.step(a, 16 * letter + 5 * q, 996 - q);
                    Due.due("no more by a step", x.rank(a), q);
                    x.mark(a, q, 0, 996);
                    Due.due("no more by a start", x.rank(a), q);
                    x.mark(a, q, 1, 1);
                }
                Due.due("rank by four loops", x.rank(a), 4);
            }
        }
        WeightedWords x = new WeightedWords();
        Made.level(x, 0, 4, 996);
        Due.due("rank of all alike", x.rank(0), 1);
        Made.emptyWord(x, 1, 996);
        Due.due("rank of the empty word", x.rank(1), 1);
    }

    private static void rankOfNone() {
        for (int a : Made.NOT_AUTOMATA) {
            Due.due("rank(" + a + ")", new WeightedWords().rank(a), -1);
        }
    }

    private static void totalOfLengths() {
        WeightedWords x = new WeightedWords();
        Made.twoThree(x, 0);
        for (int n = 0; n <= 200; n++) {
            Due.due("total(0, " + n + ")", x.total(0, n), Made.power(5, n + 1));
        }
        // The codes of n letters are 2^n .. 2^(n+1) - 1; their sum is (3 * 2^n - 1) * 2^(n-1).
        Made.codes(x, 1);
        Due.due("total(1, 0)", x.total(1, 0), 1);
        for (int n = 1; n <= 200; n++) {
            int due = (3 * Made.power(2, n) + 996) * Made.power(2, n - 1) % 997;
            Due.due("total(1, " + n + ")", x.total(1, n), due);
        }
    }

    private static void totalOfNone() {
        for (int a : Made.NOT_AUTOMATA) {
            for (int n : new int[] {0, 1, 200}) {
                Due.due("total(" + a + ", " + n + ")", new WeightedWords().total(a, n), -1);
            }
        }
    }

    private static void totalOutside() {
        for (int a = 0; a < 3; a++) {
            WeightedWords x = new WeightedWords();
            Made.twoThree(x, a);
            for (int n : new int[] {-1, -200, 201, 202, 1 << 16, LEAST, GREATEST}) {
                Due.due("total(" + a + ", " + n + ")", x.total(a, n), -2);
            }
            Due.due("total(" + a + ", 0) is good", x.total(a, 0), 5);
            Due.due("total(" + a + ", 200) is good", x.total(a, 200), Made.power(5, 201));
        }
    }

    private static void firstIsLeast() {
        for (int letters = 0; letters < 16; letters++) {
            WeightedWords x = new WeightedWords();
            Made.ring(x, 1, letters, 996, 1);
            Due.due("three letters", x.first(1), Made.ringCode(letters, 3));
            x.mark(1, 2, 1, 996);
            Due.due("two letters", x.first(1), Made.ringCode(letters, 2));
            x.mark(1, 1, 1, 1);
            Due.due("one letter", x.first(1), Made.ringCode(letters, 1));
            x.mark(1, 0, 1, 1);
            Due.due("the empty word", x.first(1), 1);
        }
    }

    /** Nothing but 0 though there are numbers: no start, no end, no way, or an even balance. */
    private static void firstOfNothing() {
        WeightedWords x = new WeightedWords();
        Due.due("a new one", x.first(0), 0);
        Made.level(x, 0, 4, 996);
        for (int q = 0; q < 4; q++) {
            x.mark(0, q, 0, 0);
        }
        Due.due("no start", x.first(0), 0);
        Made.level(x, 1, 4, 996);
        for (int q = 0; q < 4; q++) {
            x.mark(1, q, 1, 997);
        }
        Due.due("no end", x.first(1), 0);
        Made.ring(x, 2, Made.ONES, 1, 1);
        x.step(2, 16 + 4 + 2, -997);
        Due.due("no way", x.first(2), 0);
        Made.level(x, 2, 2, 1);
        x.mark(2, 1, 1, 996);
        Due.due("an even balance", x.first(2), 0);
    }

    private static void firstOfNone() {
        for (int a : Made.NOT_AUTOMATA) {
            Due.due("first(" + a + ")", new WeightedWords().first(a), -1);
        }
    }

    private static void sums() {
        Due.sentence("15: 1 if for every word the weight in c is the sum of its weights in a and"
            + " b (modulo 997), otherwise 0", BoundariesTest::isSumModulo997);
        Due.sentence("15: -1 if a, b or c is not good", BoundariesTest::isSumOfNone);
        Due.sentence("15: (It is so if it is so for all words of at most 11 letters.)",
            BoundariesTest::isSumToElevenLetters);
    }

    private static void isSumModulo997() {
        int[] sums = {0, 0, 0, 0, 996, 996, 1, 996, 0, 996, 996, 995, 498, 499, 0, 500, 499, 2};
        for (int i = 0; i < sums.length; i += 3) {
            WeightedWords x = new WeightedWords();
            Made.emptyWord(x, 0, sums[i]);
            Made.emptyWord(x, 1, sums[i + 1]);
            Made.emptyWord(x, 2, sums[i + 2]);
            String sum = sums[i] + " and " + sums[i + 1] + " make " + sums[i + 2];
            Due.due(sum, x.isSum(0, 1, 2), 1);
            Due.due(sum + ", turned", x.isSum(1, 0, 2), 1);
            x.mark(2, 0, 1, sums[i + 2] + 1);
            Due.due(sum + ", 1 more", x.isSum(0, 1, 2), 0);
            x.mark(2, 0, 1, sums[i + 2] - 1);
            Due.due(sum + ", 1 less", x.isSum(0, 1, 2), 0);
        }
        isSumOfTheSame();
    }

    /** An automaton may stand in more than one place. */
    private static void isSumOfTheSame() {
        WeightedWords x = new WeightedWords();
        x.size(0, 4);
        x.weave(0, 996);
        x.scale(1, 0, 2);
        Due.due("a and a make 2 a", x.isSum(0, 0, 1), 1);
        Due.due("a and 2 a do not make 2 a", x.isSum(0, 1, 1), 0);
        Due.due("a and nothing make a", x.isSum(0, 2, 0), 1);
        Due.due("nothing and a make a", x.isSum(2, 0, 0), 1);
        Due.due("a and a do not make a", x.isSum(0, 0, 0), 0);
        Due.due("nothing three times", x.isSum(2, 2, 2), 1);
        x.scale(1, 0, 996);
        Due.due("a and -a make nothing", x.isSum(0, 1, 2), 1);
        Due.due("a and -a do not make a", x.isSum(0, 1, 0), 0);
    }

    private static void isSumOfNone() {
        for (int bad : Made.NOT_AUTOMATA) {
            for (int good = 0; good < 3; good++) {
                WeightedWords x = new WeightedWords();
                String with = " with " + bad + " and " + good;
                Due.due("a bad" + with, x.isSum(bad, good, good), -1);
                Due.due("b bad" + with, x.isSum(good, bad, good), -1);
                Due.due("c bad" + with, x.isSum(good, good, bad), -1);
                Due.due("a and b bad" + with, x.isSum(bad, bad, good), -1);
                Due.due("a and c bad" + with, x.isSum(bad, good, bad), -1);
                Due.due("b and c bad" + with, x.isSum(good, bad, bad), -1);
            }
            Due.due("all bad " + bad, new WeightedWords().isSum(bad, bad, bad), -1);
        }
    }

    /** 1 + 1 = 2 and 1 + 3 = 2 * 2, but 1 + 9 is not 2 * 4: one word of 11 letters parts them. */
    private static void isSumToElevenLetters() {
        for (int letters = 0; letters < 16; letters++) {
            WeightedWords x = new WeightedWords();
            Made.ring(x, 0, letters, 1, 1);
            Made.ring(x, 1, letters, 1, 3);
            Made.ring(x, 2, letters, 2, 2);
            for (int length = 3; length <= 7; length += 4) {
                int code = Made.ringCode(letters, length);
                Due.due(length + " letters", x.weight(2, code),
                    x.weight(0, code) + x.weight(1, code));
            }
            Due.due("rings " + letters + " part at 11 letters", x.isSum(0, 1, 2), 0);
            x.step(1, 16 * (letters & 1) + 12, 1);
            x.step(2, 16 * (letters & 1) + 12, 1);
            Due.due("rings " + letters + " made a sum", x.isSum(0, 1, 2), 1);
        }
    }
}
