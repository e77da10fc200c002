/** Long runs of calls on the class and on the model at once; every answer must be the same. */
public final class ModelTest {
    private static final int RUNS = 600;
    private static final int CALLS = 200;

    private long state;
    private int run;
    private int style;
    private WeightedWords x;
    private Model model;

    public static void main(String[] args) {
        ModelTest test = new ModelTest();
        for (int run = 1; run <= RUNS; run++) {
            test.run(run);
        }
        Due.end();
    }

    private void run(int number) {
        run = number;
        style = number % 4;
        state = 1000003L * number;
        x = new WeightedWords();
        model = new Model();
        for (int call = 0; call < CALLS; call++) {
            if (below(3) == 0) {
                ask();
            } else {
                change();
            }
        }
    }

    /** The same numbers in every run of the test, so that a failure can be seen again. */
    private int below(int bound) {
        state = state * 6364136223846793005L + 1442695040888963407L;
        return (int) ((state >>> 33) % bound);
    }

    private int automaton() {
        return below(40) == 0 ? odd() : below(3);
    }

    private int odd() {
        int[] odd = {-1, 3, 4, 5, 32, 201, 997, 1024, -1000, Integer.MIN_VALUE, Integer.MAX_VALUE};
        return odd[below(odd.length)];
    }

    private int within(int bound) {
        return below(40) == 0 ? odd() : below(bound);
    }

    /** Small numbers, often 0, make automata that agree on many words; the others range wide. */
    private int value() {
        if (style == 0) {
            return below(3) - 1;
        }
        if (style == 1) {
            return below(4) == 0 ? 1 : 0;
        }
        return style == 2 ? below(2000) - 1000 : (below(65536) << 16) + below(65536);
    }

    private void change() {
        int a = automaton();
        int b = automaton();
        switch (below(20)) {
            case 0 -> {
                int size = 1 + within(4);
                check("size(" + a + ", " + size + ")", x.size(a, size), model.size(a, size));
            }
            case 1 -> {
                int seed = within(997);
                check("weave(" + a + ", " + seed + ")", x.weave(a, seed), model.weave(a, seed));
            }
            case 2 -> check("mirror(" + a + ", " + b + ")", x.mirror(a, b), model.mirror(a, b));
            case 3 -> {
                int factor = value();
                check("scale(" + a + ", " + b + ", " + factor + ")",
                    x.scale(a, b, factor), model.scale(a, b, factor));
            }
            case 4, 5, 6, 7, 8, 9 -> {
                int q = within(4);
                int which = within(2);
                int value = value();
                check("mark(" + a + ", " + q + ", " + which + ", " + value + ")",
                    x.mark(a, q, which, value), model.mark(a, q, which, value));
            }
            default -> {
                int route = within(32);
                int value = value();
                check("step(" + a + ", " + route + ", " + value + ")",
                    x.step(a, route, value), model.step(a, route, value));
            }
        }
    }

    private void ask() {
        int a = automaton();
        int b = automaton();
        int c = automaton();
        switch (below(8)) {
            case 0 -> check("states(" + a + ")", x.states(a), model.states(a));
            case 1 -> {
                int code = below(10) == 0 ? within(1025) : within(128);
                check("weight(" + a + ", " + code + ")", x.weight(a, code), model.weight(a, code));
            }
            case 2 -> check("equivalent(" + a + ", " + b + ")",
                x.equivalent(a, b), model.equivalent(a, b));
            case 3 -> check("difference(" + a + ", " + b + ")",
                x.difference(a, b), model.difference(a, b));
            case 4 -> check("rank(" + a + ")", x.rank(a), model.rank(a));
            case 5 -> {
                int n = within(below(2) == 0 ? 6 : 202);
                check("total(" + a + ", " + n + ")", x.total(a, n), model.total(a, n));
            }
            case 6 -> check("first(" + a + ")", x.first(a), model.first(a));
            default -> check("isSum(" + a + ", " + b + ", " + c + ")",
                x.isSum(a, b, c), model.isSum(a, b, c));
        }
    }

    private void check(String call, int got, int want) {
        Due.due("run " + run + ": " + call, got, want);
    }
}
