import java.util.ArrayList;
import java.util.List;

/** Compares answers with the ones that are due, and ends a test with its exit code. */
final class Due {
    private static final int[] CODES = {1, 2, 3, 5, 12, 15, 16, 100, 255, 511, 512, 1023};
    private static final int[] LENGTHS = {0, 1, 2, 11, 200};

    private static int asked = 0;
    private static int wrong = 0;

    private Due() {
    }

    static void due(String call, long got, long want) {
        asked++;
        if (got != want) {
            wrong++;
            System.out.println(call + " answered " + got + ", due is " + want);
        }
    }

    static void same(String what, Object got, Object want) {
        asked++;
        if (!got.equals(want)) {
            wrong++;
            System.out.println(what + ": got " + got + ", due is " + want);
        }
    }

    /** A test of one sentence of the document. One that compares nothing fails as well. */
    static void sentence(String words, Runnable test) {
        int askedBefore = asked;
        int wrongBefore = wrong;
        test.run();
        if (asked == askedBefore) {
            wrong++;
            System.out.println("nothing was compared");
        }
        if (wrong != wrongBefore) {
            System.out.println("DOES NOT HOLD: " + words);
        }
    }

    static void end() {
        System.out.println(asked + " answers, " + wrong + " not as due");
        if (asked == 0 || wrong != 0) {
            System.exit(1);
        }
    }

    /** Every size and number of an object. */
    static List<Integer> everything(WeightedWords x) {
        List<Integer> all = new ArrayList<>();
        for (int a = 0; a < 3; a++) {
            all.addAll(numbers(x, a));
        }
        return all;
    }

    /**
     * The size of an automaton, start and end of each state, and its steps in order of their
     * routes. The face has no way to read a number but to set it, so each is set to 0 and then
     * back to what it was. At most 81 calls.
     */
    static List<Integer> numbers(WeightedWords x, int a) {
        List<Integer> all = new ArrayList<>();
        int size = x.states(a);
        all.add(size);
        for (int q = 0; q < size; q++) {
            for (int which = 0; which < 2; which++) {
                int number = x.mark(a, q, which, 0);
                x.mark(a, q, which, number);
                all.add(number);
            }
        }
        for (int route = 0; route < 32; route++) {
            if (Made.isRoute(size, route)) {
                int number = x.step(a, route, 0);
                x.step(a, route, number);
                all.add(number);
            }
        }
        return all;
    }

    /** What the questions answer, each automaton in each place; 80 calls, none that sets. */
    static List<Integer> answers(WeightedWords x) {
        List<Integer> all = new ArrayList<>();
        for (int a = 0; a < 3; a++) {
            all.add(x.states(a));
            all.add(x.rank(a));
            all.add(x.first(a));
            for (int code : CODES) {
                all.add(x.weight(a, code));
            }
            for (int n : LENGTHS) {
                all.add(x.total(a, n));
            }
            for (int b = 0; b < 3; b++) {
                all.add(x.equivalent(a, b));
                all.add(x.difference(a, b));
            }
        }
        all.add(x.isSum(0, 1, 2));
        all.add(x.isSum(2, 0, 1));
        return all;
    }
}
