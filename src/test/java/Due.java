import java.util.ArrayList;
import java.util.List;

/** Compares answers with the ones that are due, and ends a test with its exit code. */
final class Due {
    private static int asked = 0;
    private static int wrong = 0;

    private Due() {
    }

    static void due(String call, long got, long want) {
        asked++;
        if (got != want) {
            wrong++;
            System.out.println(call + " answered " + got + ", due is " + want);
        }
    }

    static void same(String what, Object got, Object want) {
        asked++;
        if (!got.equals(want)) {
            wrong++;
            System.out.println(what + ": got " + got + ", due is " + want);
        }
    }

    static void end() {
        System.out.println(asked + " answers, " + wrong + " not as due");
        if (asked == 0 || wrong != 0) {
            System.exit(1);
        }
    }

    /**
     * Every size and number of an object. The face has no way to read a number but to set it,
     * so each is set to 0 and then back to what it was.
     */
    static List<Integer> everything(WeightedWords x) {
        List<Integer> all = new ArrayList<>();
        for (int a = 0; a < 3; a++) {
            int size = x.states(a);
            all.add(size);
            for (int q = 0; q < size; q++) {
                for (int which = 0; which < 2; which++) {
                    int number = x.mark(a, q, which, 0);
                    x.mark(a, q, which, number);
                    all.add(number);
                }
            }
            for (int route = 0; route < 32; route++) {
                if (route / 4 % 4 < size && route % 4 < size) {
                    int number = x.step(a, route, 0);
                    x.step(a, route, number);
                    all.add(number);
                }
            }
        }
        return all;
    }
}
