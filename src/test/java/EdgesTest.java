/**
 * Every method with every row of arguments from the edges: the least and the greatest that are
 * good, the ones just beyond them, and the least and the greatest int. The answers are those of
 * the model, which goes along.
 */
public final class EdgesTest {
    private static final int LEAST = Made.LEAST;
    private static final int GREATEST = Made.GREATEST;
    private static final int MOST_CALLS = 450;

    private static final int[] AUTOMATA = {LEAST, -1, 0, 1, 2, 3, GREATEST};
    private static final int[] STATES = {LEAST, -1, 0, 1, 2, 3, 4, 5, GREATEST};
    private static final int[] SIDES = {LEAST, -1, 0, 1, 2, GREATEST};
    private static final int[] VALUES = {LEAST, LEAST + 1, -998, -997, -996, -1, 0, 1, 996, 997,
        998, GREATEST - 1, GREATEST};
    private static final int[] ROUTES = {LEAST, -17, -16, -1, 0, 1, 2, 3, 4, 5, 10, 12, 15, 16,
        17, 20, 21, 26, 31, 32, 33, 48, GREATEST};
    private static final int[] SEEDS = {LEAST, -997, -1, 0, 1, 2, 994, 995, 996, 997, GREATEST};
    private static final int[] CODES = {LEAST, -1, 0, 1, 2, 3, 63, 64, 1024, 1025, GREATEST};
    private static final int[] LENGTHS = {LEAST, -1, 0, 1, 2, 199, 200, 201, GREATEST};

    private WeightedWords x;
    private Model model;
    private int calls;

    public static void main(String[] args) {
        EdgesTest test = new EdgesTest();
        test.begin();
        test.sizes();
        test.marks();
        test.steps();
        test.weaves();
        test.mirrorsAndScales();
        test.questions();
        Due.end();
    }

    /** An object is good for 512 calls, so a new one takes over in time. */
    private void begin() {
        x = new WeightedWords();
        model = new Model();
        calls = 0;
        for (int a = 0; a < 3; a++) {
            check("size", x.size(a, 2 + a), model.size(a, 2 + a));
            check("weave", x.weave(a, 500 + a), model.weave(a, 500 + a));
        }
    }

    private void check(String call, int got, int want) {
        Due.due(call, got, want);
        calls++;
    }

    private void renew() {
        if (calls > MOST_CALLS) {
            begin();
        }
    }

    private void sizes() {
        for (int a : AUTOMATA) {
            for (int size : STATES) {
                renew();
                check("size(" + a + ", " + size + ")", x.size(a, size), model.size(a, size));
                for (int b = 0; b < 3; b++) {
                    check("states(" + b + ")", x.states(b), model.states(b));
                }
            }
        }
        begin();
    }

    private void marks() {
        for (int a : AUTOMATA) {
            for (int q : STATES) {
                for (int which : SIDES) {
                    for (int value : VALUES) {
                        renew();
                        check("mark(" + a + ", " + q + ", " + which + ", " + value + ")",
                            x.mark(a, q, which, value), model.mark(a, q, which, value));
                    }
                }
            }
        }
    }

    private void steps() {
        for (int a : AUTOMATA) {
            for (int route : ROUTES) {
                for (int value : VALUES) {
                    renew();
                    check("step(" + a + ", " + route + ", " + value + ")",
                        x.step(a, route, value), model.step(a, route, value));
                }
            }
        }
    }

    private void weaves() {
        for (int a : AUTOMATA) {
            for (int seed : SEEDS) {
                renew();
                check("weave(" + a + ", " + seed + ")", x.weave(a, seed), model.weave(a, seed));
                weights("after weave(" + a + ", " + seed + ")");
            }
        }
    }

    private void weights(String when) {
        for (int a = 0; a < 3; a++) {
            for (int code = 1; code <= 7; code++) {
                check(when + ", weight(" + a + ", " + code + ")",
                    x.weight(a, code), model.weight(a, code));
            }
        }
    }

    private void mirrorsAndScales() {
        for (int a : AUTOMATA) {
            for (int b : AUTOMATA) {
                begin();
                String both = "(" + a + ", " + b;
                check("mirror" + both + ")", x.mirror(a, b), model.mirror(a, b));
                weights("after mirror" + both + ")");
                for (int factor : VALUES) {
                    begin();
                    String call = "scale" + both + ", " + factor + ")";
                    check(call, x.scale(a, b, factor), model.scale(a, b, factor));
                    weights("after " + call);
                }
            }
        }
    }

    private void questions() {
        for (int a : AUTOMATA) {
            begin();
            check("states(" + a + ")", x.states(a), model.states(a));
            check("rank(" + a + ")", x.rank(a), model.rank(a));
            check("first(" + a + ")", x.first(a), model.first(a));
            for (int code : CODES) {
                check("weight(" + a + ", " + code + ")", x.weight(a, code), model.weight(a, code));
            }
            for (int n : LENGTHS) {
                check("total(" + a + ", " + n + ")", x.total(a, n), model.total(a, n));
            }
            for (int b : AUTOMATA) {
                String both = "(" + a + ", " + b;
                check("equivalent" + both + ")", x.equivalent(a, b), model.equivalent(a, b));
                check("difference" + both + ")", x.difference(a, b), model.difference(a, b));
                for (int c : AUTOMATA) {
                    check("isSum" + both + ", " + c + ")", x.isSum(a, b, c), model.isSum(a, b, c));
                }
            }
        }
    }
}
