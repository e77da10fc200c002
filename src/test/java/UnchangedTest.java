import java.util.ArrayList;
import java.util.List;
import java.util.function.ToIntFunction;

/** No question changes anything, and a refused call changes nothing: each such call by itself. */
public final class UnchangedTest {
    private static final int LEAST = Made.LEAST;
    private static final int GREATEST = Made.GREATEST;
    private static final int FILLINGS = 3;
    private static final int[] BAD_AUTOMATA = {-1, 3, LEAST, GREATEST};

    private record Call(String text, ToIntFunction<WeightedWords> on) {
    }

    public static void main(String[] args) {
        Due.sentence("No question changes anything.", UnchangedTest::questions);
        Due.sentence("A refused call changes nothing. (-1)", UnchangedTest::refusedBy1);
        Due.sentence("A refused call changes nothing. (-2)", UnchangedTest::refusedBy2);
        Due.end();
    }

    /** New; woven with other sizes; and alike but for the order of states and a factor. */
    private static WeightedWords filled(int filling) {
        WeightedWords x = new WeightedWords();
        if (filling == 1) {
            for (int a = 0; a < 3; a++) {
                x.size(a, 4 - a);
                x.weave(a, 300 + a);
            }
        }
        if (filling == 2) {
            x.size(0, 4);
            x.weave(0, 996);
            x.mirror(1, 0);
            x.scale(2, 0, 2);
        }
        return x;
    }

    private static int stateCount(int filling, int a) {
        int[] counts = {1, 1, 1, 4, 3, 2, 4, 4, 4};
        return counts[3 * filling + a];
    }

    private static void questions() {
        for (int filling = 0; filling < FILLINGS; filling++) {
            for (Call call : goodQuestions()) {
                int due = call.on.applyAsInt(filled(filling));
                changesNothing(filling, call, due);
            }
        }
    }

    private static List<Call> goodQuestions() {
        List<Call> calls = new ArrayList<>();
        for (int first = 0; first < 3; first++) {
            int a = first;
            calls.add(new Call("states(" + a + ")", x -> x.states(a)));
            calls.add(new Call("rank(" + a + ")", x -> x.rank(a)));
            calls.add(new Call("first(" + a + ")", x -> x.first(a)));
            for (int code : new int[] {1, 2, 3, 512, 1023}) {
                calls.add(new Call("weight(" + a + ", " + code + ")", x -> x.weight(a, code)));
            }
            for (int n : new int[] {0, 1, 200}) {
                calls.add(new Call("total(" + a + ", " + n + ")", x -> x.total(a, n)));
            }
            for (int second = 0; second < 3; second++) {
                int b = second;
                String both = "(" + a + ", " + b + ")";
                calls.add(new Call("equivalent" + both, x -> x.equivalent(a, b)));
                calls.add(new Call("difference" + both, x -> x.difference(a, b)));
                calls.add(new Call("isSum" + both + " and 2", x -> x.isSum(a, b, 2)));
                calls.add(new Call("isSum of 2 and " + both, x -> x.isSum(2, a, b)));
            }
        }
        return calls;
    }

    private static void refusedBy1() {
        for (int filling = 0; filling < FILLINGS; filling++) {
            for (int bad : BAD_AUTOMATA) {
                for (Call call : changesOfNone(bad)) {
                    changesNothing(filling, call, -1);
                }
                for (Call call : questionsOfNone(bad)) {
                    changesNothing(filling, call, -1);
                }
            }
        }
    }

    private static List<Call> changesOfNone(int bad) {
        return List.of(
            new Call("size(" + bad + ", 2)", x -> x.size(bad, 2)),
            new Call("mark(" + bad + ", 0, 0, 9)", x -> x.mark(bad, 0, 0, 9)),
            new Call("mark(" + bad + ", 0, 1, 9)", x -> x.mark(bad, 0, 1, 9)),
            new Call("step(" + bad + ", 0, 9)", x -> x.step(bad, 0, 9)),
            new Call("step(" + bad + ", 16, 9)", x -> x.step(bad, 16, 9)),
            new Call("weave(" + bad + ", 9)", x -> x.weave(bad, 9)),
            new Call("mirror(" + bad + ", 0)", x -> x.mirror(bad, 0)),
            new Call("mirror(0, " + bad + ")", x -> x.mirror(0, bad)),
            new Call("mirror(2, " + bad + ")", x -> x.mirror(2, bad)),
            new Call("mirror(" + bad + ", " + bad + ")", x -> x.mirror(bad, bad)),
            new Call("scale(" + bad + ", 0, 9)", x -> x.scale(bad, 0, 9)),
            new Call("scale(0, " + bad + ", 9)", x -> x.scale(0, bad, 9)),
            new Call("scale(2, " + bad + ", 0)", x -> x.scale(2, bad, 0)),
            new Call("scale(" + bad + ", " + bad + ", 9)", x -> x.scale(bad, bad, 9)));
    }

    private static List<Call> questionsOfNone(int bad) {
        return List.of(
            new Call("states(" + bad + ")", x -> x.states(bad)),
            new Call("weight(" + bad + ", 1023)", x -> x.weight(bad, 1023)),
            new Call("equivalent(" + bad + ", 0)", x -> x.equivalent(bad, 0)),
            new Call("equivalent(0, " + bad + ")", x -> x.equivalent(0, bad)),
            new Call("difference(" + bad + ", 0)", x -> x.difference(bad, 0)),
            new Call("difference(0, " + bad + ")", x -> x.difference(0, bad)),
            new Call("rank(" + bad + ")", x -> x.rank(bad)),
            new Call("total(" + bad + ", 200)", x -> x.total(bad, 200)),
            new Call("first(" + bad + ")", x -> x.first(bad)),
            new Call("isSum(" + bad + ", 0, 1)", x -> x.isSum(bad, 0, 1)),
            new Call("isSum(0, " + bad + ", 1)", x -> x.isSum(0, bad, 1)),
            new Call("isSum(0, 1, " + bad + ")", x -> x.isSum(0, 1, bad)));
    }

    private static void refusedBy2() {
        for (int filling = 0; filling < FILLINGS; filling++) {
            for (int a = 0; a < 3; a++) {
                int size = stateCount(filling, a);
                Due.due("filling " + filling, filled(filling).states(a), size);
                for (Call call : outside(a)) {
                    changesNothing(filling, call, -2);
                }
                for (Call call : outsideStates(a, size)) {
                    changesNothing(filling, call, -2);
                }
            }
        }
    }

    private static List<Call> outside(int a) {
        List<Call> calls = new ArrayList<>();
        for (int size : new int[] {0, 5, LEAST, GREATEST}) {
            calls.add(new Call("size(" + a + ", " + size + ")", x -> x.size(a, size)));
        }
        for (int seed : new int[] {-1, 997, LEAST, GREATEST}) {
            calls.add(new Call("weave(" + a + ", " + seed + ")", x -> x.weave(a, seed)));
        }
        for (int code : new int[] {0, 1024, LEAST, GREATEST}) {
            calls.add(new Call("weight(" + a + ", " + code + ")", x -> x.weight(a, code)));
        }
        for (int n : new int[] {-1, 201, LEAST, GREATEST}) {
            calls.add(new Call("total(" + a + ", " + n + ")", x -> x.total(a, n)));
        }
        calls.add(new Call("mirror(" + a + ", " + a + ")", x -> x.mirror(a, a)));
        return calls;
    }

    private static List<Call> outsideStates(int a, int size) {
        List<Call> calls = new ArrayList<>();
        for (int q : new int[] {-1, size, 4, LEAST, GREATEST}) {
            for (int which = 0; which < 2; which++) {
                int side = which;
                calls.add(new Call("mark(" + a + ", " + q + ", " + side + ", 9)",
                    x -> x.mark(a, q, side, 9)));
            }
        }
        for (int i = -17; i <= 48; i++) {
            int route = i;
            if (!Made.isRoute(size, route)) {
                calls.add(new Call("step(" + a + ", " + route + ", 9)",
                    x -> x.step(a, route, 9)));
            }
        }
        calls.add(new Call("step(" + a + ", least, 9)", x -> x.step(a, LEAST, 9)));
        calls.add(new Call("step(" + a + ", greatest, 9)", x -> x.step(a, GREATEST, 9)));
        return calls;
    }

    /** The questions before and after, and the numbers as in an object without the call. */
    private static void changesNothing(int filling, Call call, int due) {
        String where = "filling " + filling + ", " + call.text;
        WeightedWords x = filled(filling);
        List<Integer> before = Due.answers(x);
        Due.due(where, call.on.applyAsInt(x), due);
        Due.same(where + ", answers after it", Due.answers(x), before);
        Due.same(where + ", numbers after it", Due.everything(x),
            Due.everything(filled(filling)));
    }
}
