import java.util.List;

/** Each promise in turn, with answers worked out from the document, apart from the program. */
public final class PromisesTest {
    public static void main(String[] args) {
        newObject();
        size();
        mark();
        step();
        weave();
        weaveLeavesOutSteps();
        mirror();
        mirrorLeavesTheThird();
        scale();
        states();
        weight();
        equivalent();
        difference();
        rank();
        total();
        first();
        isSum();
        isSumTakesAnyAutomata();
        refusalsComeInOrder();
        refusalsChangeNothing();
        questionsChangeNothing();
        objectsAreApart();
        Due.end();
    }

    private static void newObject() {
        WeightedWords x = new WeightedWords();
        Due.same("a new object", Due.everything(x),
            List.of(1, 0, 0, 0, 0, 1, 0, 0, 0, 0, 1, 0, 0, 0, 0));
        for (int a = 0; a < 3; a++) {
            Due.due("new: states(" + a + ")", x.states(a), 1);
            Due.due("new: first(" + a + ")", x.first(a), 0);
            Due.due("new: rank(" + a + ")", x.rank(a), 0);
            Due.due("new: total(" + a + ", 200)", x.total(a, 200), 0);
        }
        Due.due("new: equivalent(1, 2)", x.equivalent(1, 2), 1);
        Due.due("new: isSum(0, 1, 2)", x.isSum(0, 1, 2), 1);
    }

    private static void size() {
        WeightedWords x = new WeightedWords();
        Due.due("size(0, 4)", x.size(0, 4), 1);
        Due.due("size(0, 1)", x.size(0, 1), 4);
        Due.due("size(0, 3)", x.size(0, 3), 1);
        Due.due("size(2, 2)", x.size(2, 2), 1);
        Due.due("size to the same", x.size(0, 3), 3);
        Due.due("size leaves 1", x.states(1), 1);
        Due.due("size leaves 2", x.states(2), 2);
        sizeClears(3);
        sizeClears(4);
        sizeClears(1);
        for (int a : Made.NOT_AUTOMATA) {
            Due.due("size(" + a + ", 2)", x.size(a, 2), -1);
        }
        for (int size : new int[] {0, 5, -1, Integer.MIN_VALUE, Integer.MAX_VALUE}) {
            Due.due("size(0, " + size + ")", x.size(0, size), -2);
        }
    }

    private static void sizeClears(int size) {
        WeightedWords x = new WeightedWords();
        WeightedWords y = new WeightedWords();
        for (int a = 0; a < 3; a++) {
            x.size(a, 4);
            x.weave(a, 7 + a);
        }
        x.size(1, size);
        y.size(0, 4);
        y.weave(0, 7);
        y.size(1, size);
        y.size(2, 4);
        y.weave(2, 9);
        Due.same("size(1, " + size + ") clears 1 alone", Due.everything(x), Due.everything(y));
        // Growing again must not bring back numbers of states that were there once.
        x.size(1, 1);
        Due.due("size before", x.size(1, 4), 1);
        Due.due("first after growing", x.first(1), 0);
        Due.due("start of state 3 after growing", x.mark(1, 3, 0, 1), 0);
        Due.due("end of state 3 after growing", x.mark(1, 3, 1, 1), 0);
        Due.due("loop of state 3 after growing", x.step(1, 31, 1), 0);
    }

    private static void mark() {
        WeightedWords x = new WeightedWords();
        x.size(1, 3);
        Due.due("mark start", x.mark(1, 2, 0, 5), 0);
        Due.due("mark start again", x.mark(1, 2, 0, 6), 5);
        Due.due("mark end", x.mark(1, 2, 1, 7), 0);
        Due.due("mark end by -1", x.mark(1, 2, -1, 8), 7);
        Due.due("mark end by 2", x.mark(1, 2, 2, 9), 8);
        Due.due("mark end by the least", x.mark(1, 2, Integer.MIN_VALUE, 10), 9);
        Due.due("mark end by the greatest", x.mark(1, 2, Integer.MAX_VALUE, 11), 10);
        Due.due("start kept", x.mark(1, 2, 0, 997), 6);
        Due.due("997 is 0", x.mark(1, 2, 0, 996), 0);
        Due.due("996 is 996", x.mark(1, 2, 0, -997), 996);
        Due.due("-997 is 0", x.mark(1, 2, 0, -1), 0);
        Due.due("-1 is 996", x.mark(1, 2, 0, -998), 996);
        Due.due("-998 is 996", x.mark(1, 2, 0, Integer.MAX_VALUE), 996);
        Due.due("2147483647 is 482", x.mark(1, 2, 0, Integer.MIN_VALUE), 482);
        Due.due("-2147483648 is 514", x.mark(1, 2, 0, 0), 514);
        Due.due("end kept", x.mark(1, 2, 1, -2), 11);
        Due.due("-2 is 995", x.mark(1, 2, 1, 0), 995);
        Due.due("other state", x.mark(1, 1, 0, 0), 0);
        Due.due("other automaton", x.mark(2, 0, 0, 0), 0);
        for (int a : Made.NOT_AUTOMATA) {
            Due.due("mark(" + a + ", 0, 0, 1)", x.mark(a, 0, 0, 1), -1);
        }
        for (int q : new int[] {-1, 3, 4, Integer.MIN_VALUE, Integer.MAX_VALUE}) {
            Due.due("mark(1, " + q + ", 0, 1)", x.mark(1, q, 0, 1), -2);
        }
        Due.due("mark(0, 1, 1, 1) with one state", x.mark(0, 1, 1, 1), -2);
    }

    private static void step() {
        for (int size = 1; size <= 4; size++) {
            stepTakesJustItsRoutes(size);
        }
        WeightedWords x = new WeightedWords();
        Due.due("step", x.step(2, 16, 5), 0);
        Due.due("step again", x.step(2, 16, -1), 5);
        Due.due("step -1 is 996", x.step(2, 16, 1994), 996);
        Due.due("step 1994 is 0", x.step(2, 16, Integer.MIN_VALUE), 0);
        Due.due("step of the least", x.step(2, 16, Integer.MAX_VALUE), 514);
        Due.due("step of the greatest", x.step(2, 16, 0), 482);
        for (int a : Made.NOT_AUTOMATA) {
            Due.due("step(" + a + ", 0, 1)", x.step(a, 0, 1), -1);
        }
    }

    private static void stepTakesJustItsRoutes(int size) {
        WeightedWords x = new WeightedWords();
        x.size(1, size);
        for (int route = 0; route < 32; route++) {
            int p = route / 4 % 4;
            int q = route % 4;
            boolean good = p < size && q < size;
            String call = "size " + size + ": step(1, " + route + ", ..)";
            Due.due(call, x.step(1, route, 100 + route), good ? 0 : -2);
        }
        for (int route = 0; route < 32; route++) {
            boolean good = route / 4 % 4 < size && route % 4 < size;
            String call = "size " + size + ": step(1, " + route + ", 0)";
            Due.due(call, x.step(1, route, 0), good ? 100 + route : -2);
        }
        for (int route : new int[] {-1, -16, -32, 32, 33, 48, 64, 1 << 16,
                Integer.MIN_VALUE, Integer.MAX_VALUE}) {
            Due.due("step(1, " + route + ", 1)", x.step(1, route, 1), -2);
        }
    }

    private static void weave() {
        WeightedWords x = new WeightedWords();
        x.size(0, 4);
        x.mark(0, 3, 0, 77);
        x.size(1, 2);
        Due.due("weave(0, 996)", x.weave(0, 996), 0);
        Due.due("start(0)", x.mark(0, 0, 0, 0), 996);
        Due.due("start(1)", x.mark(0, 1, 0, 0), 0);
        Due.due("start(3)", x.mark(0, 3, 0, 0), 2);
        Due.due("end(0)", x.mark(0, 0, 1, 0), 1);
        Due.due("end(1)", x.mark(0, 1, 1, 0), 0);
        Due.due("end(2)", x.mark(0, 2, 1, 0), 996);
        Due.due("end(3)", x.mark(0, 3, 1, 0), 995);
        // 996 is a multiple of 3, so the steps with p + 2 * q + c a multiple of 3 are 0.
        Due.due("step(0, 0, 0)", x.step(0, 0, 0), 0);
        Due.due("step(0, 0, 1)", x.step(0, 1, 0), 2);
        Due.due("step(0, 1, 0)", x.step(0, 4, 0), 995);
        Due.due("step(0, 1, 1)", x.step(0, 5, 0), 0);
        Due.due("step(1, 0, 0)", x.step(0, 16, 0), 996);
        Due.due("step(1, 0, 1)", x.step(0, 17, 0), 0);
        Due.due("step(1, 3, 3)", x.step(0, 31, 0), 11);
        Due.due("step(1, 3, 2)", x.step(0, 30, 0), 7);
        Due.due("step(1, 2, 3)", x.step(0, 27, 0), 0);
        Due.due("weave leaves 1", x.first(1), 0);
        Due.due("weave(1, 0)", x.weave(1, 0), 0);
        Due.due("seed 0: start(1)", x.mark(1, 1, 0, 0), 1);
        Due.due("seed 0: end(1)", x.mark(1, 1, 1, 0), 1);
        Due.due("seed 0: step(0, 0, 1)", x.step(1, 1, 0), 3);
        Due.due("seed 0: step(1, 1, 0)", x.step(1, 20, 0), 1);
        Due.due("seed 0: states", x.states(1), 2);
        for (int a : Made.NOT_AUTOMATA) {
            Due.due("weave(" + a + ", 1)", x.weave(a, 1), -1);
        }
        for (int seed : new int[] {-1, 997, 998, Integer.MIN_VALUE, Integer.MAX_VALUE}) {
            Due.due("weave(0, " + seed + ")", x.weave(0, seed), -2);
        }
    }

    private static void weaveLeavesOutSteps() {
        WeightedWords x = new WeightedWords();
        x.size(0, 2);
        for (int route : new int[] {0, 1, 4, 5, 16, 17, 20, 21}) {
            x.step(0, route, 500);
        }
        x.weave(0, 10);
        Due.due("10: step(0, 0, 0)", x.step(0, 0, 0), 10);
        Due.due("10: step(0, 0, 1)", x.step(0, 1, 0), 0);
        Due.due("10: step(0, 1, 0)", x.step(0, 4, 0), 20);
        Due.due("10: step(0, 1, 1)", x.step(0, 5, 0), 23);
        Due.due("10: step(1, 0, 0)", x.step(0, 16, 0), 10);
        Due.due("10: step(1, 0, 1)", x.step(0, 17, 0), 14);
        Due.due("10: step(1, 1, 0)", x.step(0, 20, 0), 0);
        Due.due("10: step(1, 1, 1)", x.step(0, 21, 0), 25);
    }

    private static void mirror() {
        WeightedWords x = new WeightedWords();
        x.size(0, 3);
        x.mark(0, 0, 0, 11);
        x.mark(0, 1, 1, 12);
        x.step(0, 1, 13);
        x.step(0, 16 + 4 + 2, 14);
        x.size(1, 4);
        x.weave(1, 50);
        Due.due("mirror(1, 0)", x.mirror(1, 0), 0);
        Due.due("states after mirror", x.states(1), 3);
        Due.same("b kept, a mirrored", Due.everything(x), List.of(
            3, 11, 0, 0, 12, 0, 0, 0, 13, 0, 0, 0, 0, 0, 0, 0, 0, 0, 0, 0, 0, 14, 0, 0, 0,
            3, 0, 0, 0, 12, 11, 0, 0, 0, 0, 0, 0, 0, 0, 13, 0, 0, 0, 0, 14, 0, 0, 0, 0, 0,
            1, 0, 0, 0, 0));
        Due.due("mirrored is equivalent", x.equivalent(0, 1), 1);
        Due.due("mirror back", x.mirror(2, 1), 0);
        Due.due("state 0 is back", x.mark(2, 0, 0, 0), 11);
        for (int a = 0; a < 3; a++) {
            Due.due("mirror(" + a + ", " + a + ")", x.mirror(a, a), -2);
        }
        for (int a : Made.NOT_AUTOMATA) {
            Due.due("mirror(" + a + ", 0)", x.mirror(a, 0), -1);
            Due.due("mirror(0, " + a + ")", x.mirror(0, a), -1);
            Due.due("mirror(" + a + ", " + a + ")", x.mirror(a, a), -1);
        }
    }

    private static void mirrorLeavesTheThird() {
        for (int a = 0; a < 3; a++) {
            for (int b = 0; b < 3; b++) {
                if (a != b) {
                    mirrorLeavesTheThird(a, b);
                }
            }
        }
    }

    private static void mirrorLeavesTheThird(int a, int b) {
        WeightedWords x = new WeightedWords();
        int third = 3 - a - b;
        for (int c = 0; c < 3; c++) {
            x.size(c, 4);
            x.weave(c, 60 + c);
        }
        x.mirror(a, b);
        WeightedWords y = new WeightedWords();
        y.size(third, 4);
        y.weave(third, 60 + third);
        y.size(b, 4);
        y.weave(b, 60 + b);
        y.mirror(a, b);
        Due.same("mirror(" + a + ", " + b + ") changes that alone",
            Due.everything(x), Due.everything(y));
        for (int q = 0; q < 4; q++) {
            Due.due("start(" + q + ") of the third", x.mark(third, q, 0, 0), 60 + third + q);
            Due.due("start(" + q + ") of b", x.mark(b, q, 0, 0), 60 + b + q);
            Due.due("start(" + q + ") of a", x.mark(a, q, 0, 0), 60 + b + 3 - q);
        }
    }

    private static void scale() {
        WeightedWords x = new WeightedWords();
        x.size(0, 2);
        x.mark(0, 0, 0, 996);
        x.mark(0, 1, 0, 3);
        x.mark(0, 1, 1, 4);
        x.step(0, 17, 5);
        x.size(2, 4);
        x.weave(2, 8);
        Due.due("scale(2, 0, 2)", x.scale(2, 0, 2), 0);
        Due.same("b kept, starts of a scaled", Due.everything(x), List.of(
            2, 996, 0, 3, 4, 0, 0, 0, 0, 0, 5, 0, 0,
            1, 0, 0, 0, 0,
            2, 995, 0, 6, 4, 0, 0, 0, 0, 0, 5, 0, 0));
        Due.due("scale onto itself", x.scale(2, 2, -1), 0);
        Due.due("start(0) scaled in place", x.mark(2, 0, 0, 995), 2);
        Due.due("start(1) scaled in place", x.mark(2, 1, 0, 6), 991);
        Due.due("end(1) not scaled", x.mark(2, 1, 1, 4), 4);
        Due.due("scale by the greatest", x.scale(1, 0, Integer.MAX_VALUE), 0);
        Due.due("996 * 482", x.mark(1, 0, 0, 0), 515);
        Due.due("3 * 482", x.mark(1, 1, 0, 0), 449);
        Due.due("scale by the least", x.scale(1, 0, Integer.MIN_VALUE), 0);
        Due.due("996 * 514", x.mark(1, 0, 0, 0), 483);
        Due.due("scale by 997", x.scale(1, 0, 997), 0);
        Due.due("nothing left", x.first(1), 0);
        Due.due("but its size", x.states(1), 2);
        for (int a : Made.NOT_AUTOMATA) {
            Due.due("scale(" + a + ", 0, 1)", x.scale(a, 0, 1), -1);
            Due.due("scale(0, " + a + ", 1)", x.scale(0, a, 1), -1);
        }
    }

    private static void states() {
        WeightedWords x = new WeightedWords();
        x.size(0, 2);
        x.size(1, 3);
        x.size(2, 4);
        for (int a = 0; a < 3; a++) {
            Due.due("states(" + a + ")", x.states(a), a + 2);
        }
        for (int a : Made.NOT_AUTOMATA) {
            Due.due("states(" + a + ")", x.states(a), -1);
        }
    }

    private static void weight() {
        WeightedWords x = new WeightedWords();
        Made.twoThree(x, 0);
        Due.due("weight of the empty word", x.weight(0, 1), 5);
        Due.due("weight of 0", x.weight(0, 2), 10);
        Due.due("weight of 1", x.weight(0, 3), 15);
        Due.due("weight of 011", x.weight(0, 11), 90);
        Due.due("weight of 9 zeros", x.weight(0, 512), 566);
        Due.due("weight of 9 ones", x.weight(0, 1023), 709);
        // The order of the letters counts: only 0 and then 1 leads from state 0 to state 2.
        x.size(1, 3);
        x.mark(1, 0, 0, 7);
        x.mark(1, 2, 1, 11);
        x.step(1, 1, 2);
        x.step(1, 16 + 4 + 2, 3);
        Due.due("weight of 01", x.weight(1, 5), 462);
        Due.due("weight of 10", x.weight(1, 6), 0);
        Due.due("weight of 00", x.weight(1, 4), 0);
        Due.due("weight of 0 alone", x.weight(1, 2), 0);
        for (int a : Made.NOT_AUTOMATA) {
            Due.due("weight(" + a + ", 1)", x.weight(a, 1), -1);
        }
        for (int code : new int[] {0, -1, 1024, Integer.MIN_VALUE, Integer.MAX_VALUE}) {
            Due.due("weight(0, " + code + ")", x.weight(0, code), -2);
        }
    }

    private static void equivalent() {
        for (int letters : new int[] {Made.ZEROS, Made.ONES}) {
            WeightedWords x = new WeightedWords();
            Made.ring(x, 0, letters, 1, 1);
            Made.ring(x, 1, letters, 1, 2);
            x.mirror(2, 1);
            Due.due("rings that part at 7 letters", x.equivalent(0, 1), 0);
            Due.due("the same the other way", x.equivalent(1, 0), 0);
            Due.due("ring and its mirror", x.equivalent(1, 2), 1);
            Due.due("ring and itself", x.equivalent(1, 1), 1);
        }
        WeightedWords x = new WeightedWords();
        Made.twoThree(x, 0);
        x.scale(1, 0, 998);
        x.size(2, 4);
        Due.due("scaled by 998", x.equivalent(0, 1), 1);
        Due.due("other sizes", x.equivalent(0, 2), 0);
        x.mark(2, 3, 0, 5);
        x.mark(2, 3, 1, 1);
        x.step(2, 15, 2);
        x.step(2, 31, 3);
        Due.due("other sizes and numbers, same weights", x.equivalent(0, 2), 1);
        for (int a : Made.NOT_AUTOMATA) {
            Due.due("equivalent(" + a + ", 0)", x.equivalent(a, 0), -1);
            Due.due("equivalent(0, " + a + ")", x.equivalent(0, a), -1);
            Due.due("equivalent(" + a + ", " + a + ")", x.equivalent(a, a), -1);
        }
    }

    private static void difference() {
        WeightedWords x = new WeightedWords();
        Made.ring(x, 0, Made.ONES, 1, 1);
        Made.ring(x, 1, Made.ONES, 1, 2);
        Due.due("seven ones", x.difference(0, 1), 255);
        Due.due("seven ones, the other way", x.difference(1, 0), 255);
        Made.ring(x, 2, Made.ONES, 2, 1);
        Due.due("three ones", x.difference(0, 2), 15);
        Made.ring(x, 0, Made.ZEROS, 1, 1);
        Made.ring(x, 1, Made.ZEROS, 1, 2);
        Due.due("seven zeros", x.difference(0, 1), 128);
        Due.due("three zeros before three ones", x.difference(0, 2), 8);
        x.mirror(2, 0);
        Due.due("no difference", x.difference(0, 2), 0);
        Due.due("none from itself", x.difference(0, 0), 0);
        x.mark(2, 0, 0, 1);
        Due.due("the empty word", x.difference(0, 2), 1);
        for (int a : Made.NOT_AUTOMATA) {
            Due.due("difference(" + a + ", 0)", x.difference(a, 0), -1);
            Due.due("difference(0, " + a + ")", x.difference(0, a), -1);
            Due.due("difference(" + a + ", " + a + ")", x.difference(a, a), -1);
        }
    }

    private static void rank() {
        WeightedWords x = new WeightedWords();
        Made.ring(x, 0, Made.ONES, 1, 0);
        Due.due("rank of a chain of ones", x.rank(0), 4);
        Made.ring(x, 0, Made.ZEROS, 1, 0);
        Due.due("rank of a chain of zeros", x.rank(0), 4);
        x.mark(0, 0, 0, 0);
        x.mark(0, 2, 0, 1);
        Due.due("rank of a chain begun at state 2", x.rank(0), 2);
        // 1, 100, 30, 9, .. is a row of powers modulo 997 only.
        x.mark(1, 0, 0, 1);
        x.mark(1, 0, 1, 1);
        x.step(1, 0, 100);
        Due.due("rank of powers of 100", x.rank(1), 1);
        // Three states that do the same work as one.
        x.size(2, 3);
        for (int q = 0; q < 3; q++) {
            x.mark(2, q, 0, q + 1);
            x.mark(2, q, 1, 1);
            x.step(2, 5 * q, 2);
        }
        Due.due("rank of three alike", x.rank(2), 1);
        x.step(2, 10, 3);
        Due.due("rank of two alike and one not", x.rank(2), 2);
        x.step(2, 5, 4);
        Due.due("rank of three unlike", x.rank(2), 3);
        for (int a : Made.NOT_AUTOMATA) {
            Due.due("rank(" + a + ")", x.rank(a), -1);
        }
    }

    private static void total() {
        WeightedWords x = new WeightedWords();
        Made.twoThree(x, 0);
        int due = 5;
        for (int n = 0; n <= 200; n++) {
            Due.due("total(0, " + n + ")", x.total(0, n), due);
            due = due * 5 % 997;
        }
        Made.ring(x, 1, Made.ONES, 1, 3);
        Due.due("total(1, 3)", x.total(1, 3), 1);
        Due.due("total(1, 4)", x.total(1, 4), 0);
        Due.due("total(1, 7)", x.total(1, 7), 3);
        Due.due("total(1, 199)", x.total(1, 199), Made.power(3, 49));
        for (int a : Made.NOT_AUTOMATA) {
            Due.due("total(" + a + ", 1)", x.total(a, 1), -1);
        }
        for (int n : new int[] {-1, 201, Integer.MIN_VALUE, Integer.MAX_VALUE}) {
            Due.due("total(0, " + n + ")", x.total(0, n), -2);
        }
    }

    private static void first() {
        WeightedWords x = new WeightedWords();
        Made.ring(x, 0, Made.ONES, 1, 1);
        Due.due("first is three ones", x.first(0), 15);
        Made.ring(x, 1, Made.ZEROS, 1, 1);
        Due.due("first is three zeros", x.first(1), 8);
        x.mark(1, 3, 1, 0);
        Due.due("all 0 without an end", x.first(1), 0);
        x.mark(1, 2, 1, 1);
        Due.due("first is two zeros", x.first(1), 4);
        x.step(1, 17, 1);
        Due.due("first is still two zeros", x.first(1), 4);
        x.mark(1, 1, 1, 1);
        Due.due("first is a zero", x.first(1), 2);
        x.mark(1, 0, 1, 1);
        Due.due("first is the empty word", x.first(1), 1);
        // Starts that end to 997 together: the empty word has weight 0 although no number is 0.
        x.size(2, 2);
        x.mark(2, 0, 0, 1);
        x.mark(2, 1, 0, 1);
        x.mark(2, 0, 1, 500);
        x.mark(2, 1, 1, 497);
        Due.due("first of weights that end out", x.first(2), 0);
        x.step(2, 16, 1);
        Due.due("first is a one", x.first(2), 3);
        for (int a : Made.NOT_AUTOMATA) {
            Due.due("first(" + a + ")", x.first(a), -1);
        }
    }

    private static void isSum() {
        for (int letters : new int[] {Made.ZEROS, Made.ONES}) {
            WeightedWords x = new WeightedWords();
            // 1 + 1 = 2 and 1 + 3 = 2 * 2, but 1 + 9 is not 2 * 4: they part at 11 letters.
            Made.ring(x, 0, letters, 1, 1);
            Made.ring(x, 1, letters, 1, 3);
            Made.ring(x, 2, letters, 2, 2);
            Due.due("rings that part at 11 letters", x.isSum(0, 1, 2), 0);
            Made.ring(x, 1, letters, 996, 1);
            Made.ring(x, 2, letters, 0, 1);
            Due.due("1 and 996 make 0", x.isSum(0, 1, 2), 1);
            Made.ring(x, 1, letters, 995, 1);
            Made.ring(x, 2, letters, 996, 1);
            Due.due("1 and 995 make 996", x.isSum(0, 1, 2), 1);
            Due.due("1 and 996 do not make 995", x.isSum(0, 2, 1), 0);
            Due.due("995 and 996 do not make 1", x.isSum(1, 2, 0), 0);
        }
    }

    private static void isSumTakesAnyAutomata() {
        WeightedWords x = new WeightedWords();
        x.size(0, 4);
        x.weave(0, 123);
        Due.due("a and nothing make a", x.isSum(0, 1, 0), 1);
        Due.due("nothing and a make a", x.isSum(1, 0, 0), 1);
        Due.due("a and a do not make a", x.isSum(0, 0, 0), 0);
        Due.due("nothing is its own sum", x.isSum(1, 1, 1), 1);
        x.scale(2, 0, 2);
        Due.due("a and a make twice a", x.isSum(0, 0, 2), 1);
        isSumLooksAtTheEmptyWord();
        for (int a : Made.NOT_AUTOMATA) {
            Due.due("isSum(" + a + ", 0, 0)", x.isSum(a, 0, 0), -1);
            Due.due("isSum(0, " + a + ", 0)", x.isSum(0, a, 0), -1);
            Due.due("isSum(0, 0, " + a + ")", x.isSum(0, 0, a), -1);
        }
    }

    private static void isSumLooksAtTheEmptyWord() {
        WeightedWords x = new WeightedWords();
        for (int a = 0; a < 3; a++) {
            x.mark(a, 0, 0, 1);
            x.mark(a, 0, 1, 1);
        }
        Due.due("1 and 1 do not make 1 on the empty word", x.isSum(0, 1, 2), 0);
        x.mark(2, 0, 1, 2);
        Due.due("1 and 1 make 2 on the empty word", x.isSum(0, 1, 2), 1);
    }

    private static void refusalsComeInOrder() {
        WeightedWords x = new WeightedWords();
        Due.due("size(3, 0)", x.size(3, 0), -1);
        Due.due("mark(-1, 9, 0, 0)", x.mark(-1, 9, 0, 0), -1);
        Due.due("step(3, 32, 0)", x.step(3, 32, 0), -1);
        Due.due("weave(3, 997)", x.weave(3, 997), -1);
        Due.due("weight(3, 0)", x.weight(3, 0), -1);
        Due.due("total(-1, 201)", x.total(-1, 201), -1);
    }

    private static WeightedWords filled() {
        WeightedWords x = new WeightedWords();
        for (int a = 0; a < 3; a++) {
            x.size(a, 3 - a);
            x.weave(a, 40 + a);
        }
        return x;
    }

    private static void refusalsChangeNothing() {
        WeightedWords x = filled();
        List<Integer> before = Due.everything(x);
        for (int bad : new int[] {-1, 3}) {
            x.size(bad, 2);
            x.mark(bad, 0, 0, 9);
            x.step(bad, 0, 9);
            x.weave(bad, 9);
            x.mirror(bad, 0);
            x.mirror(0, bad);
            x.scale(bad, 0, 9);
            x.scale(0, bad, 9);
        }
        x.size(0, 0);
        x.size(0, 5);
        x.mark(1, 2, 0, 9);
        x.mark(1, -1, 1, 9);
        x.step(1, 2, 9);
        x.step(1, 8, 9);
        x.step(0, -1, 9);
        x.step(0, 32, 9);
        x.weave(0, -1);
        x.weave(0, 997);
        x.mirror(0, 0);
        Due.same("after refusals", Due.everything(x), before);
    }

    private static void questionsChangeNothing() {
        WeightedWords x = filled();
        List<Integer> before = Due.everything(x);
        for (int a = 0; a < 3; a++) {
            int b = (a + 1) % 3;
            int weight = x.weight(a, 600);
            int total = x.total(a, 9);
            int rank = x.rank(a);
            int first = x.first(a);
            int difference = x.difference(a, b);
            Due.due("equivalent", x.equivalent(a, b), difference == 0 ? 1 : 0);
            x.isSum(a, b, a);
            Due.due("weight again", x.weight(a, 600), weight);
            Due.due("total again", x.total(a, 9), total);
            Due.due("rank again", x.rank(a), rank);
            Due.due("first again", x.first(a), first);
            Due.due("difference again", x.difference(a, b), difference);
        }
        Due.same("after questions", Due.everything(x), before);
    }

    private static void objectsAreApart() {
        WeightedWords x = new WeightedWords();
        WeightedWords y = filled();
        Due.due("states of another object", x.states(0), 1);
        Due.due("first of another object", x.first(0), 0);
        Due.due("first of this object", y.first(0) > 0 ? 1 : 0, 1);
    }
}
