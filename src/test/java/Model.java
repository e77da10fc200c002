import java.util.ArrayList;
import java.util.List;

/**
 * The document again, by other means than the program's: weights as sums over all rows of
 * states, and equality of automata by growing a basis until no longer word adds to it, without
 * any bound on the words' length.
 */
final class Model {
    private static final int M = 997;

    /** One automaton; automata can be set side by side to add or subtract their weights. */
    private record Automaton(long[] start, long[][][] step, long[] end) {
        static Automaton empty(int n) {
            return new Automaton(new long[n], new long[2][n][n], new long[n]);
        }

        int size() {
            return start.length;
        }

        Automaton beside(Automaton other, int sign) {
            int n = size();
            Automaton both = empty(n + other.size());
            for (int p = 0; p < n + other.size(); p++) {
                boolean own = p < n;
                both.start[p] = own ? start[p] : other.start[p - n];
                both.end[p] = own ? end[p] : modulo(sign * other.end[p - n]);
                for (int c = 0; c < 2; c++) {
                    for (int q = own ? 0 : n; q < (own ? n : n + other.size()); q++) {
                        both.step[c][p][q] = own ? step[c][p][q] : other.step[c][p - n][q - n];
                    }
                }
            }
            return both;
        }
    }

    /** A set of vectors in echelon form. */
    private static final class Basis {
        final List<long[]> rows = new ArrayList<>();

        boolean add(long[] vector) {
            long[] rest = vector.clone();
            for (long[] row : rows) {
                int lead = lead(row);
                long times = rest[lead];
                for (int i = 0; i < rest.length; i++) {
                    rest[i] = modulo(rest[i] - times * row[i]);
                }
            }
            int lead = lead(rest);
            if (lead < 0) {
                return false;
            }
            long inverse = inverse(rest[lead]);
            for (int i = 0; i < rest.length; i++) {
                rest[i] = modulo(rest[i] * inverse);
            }
            rows.add(rest);
            return true;
        }

        private static int lead(long[] row) {
            for (int i = 0; i < row.length; i++) {
                if (row[i] != 0) {
                    return i;
                }
            }
            return -1;
        }
    }

    private record Word(int code, long[] vector) {
    }

    private final Automaton[] automata = {
        Automaton.empty(1), Automaton.empty(1), Automaton.empty(1)};

    int size(int a, int size) {
        if (bad(a)) {
            return -1;
        }
        if (size < 1 || size > 4) {
            return -2;
        }
        int before = automata[a].size();
        automata[a] = Automaton.empty(size);
        return before;
    }

    int mark(int a, int q, int which, int value) {
        if (bad(a)) {
            return -1;
        }
        if (q < 0 || q >= automata[a].size()) {
            return -2;
        }
        long[] numbers = which == 0 ? automata[a].start : automata[a].end;
        int before = (int) numbers[q];
        numbers[q] = modulo(value);
        return before;
    }

    int step(int a, int route, int value) {
        if (bad(a)) {
            return -1;
        }
        int n = automata[a].size();
        for (int c = 0; c < 2; c++) {
            for (int p = 0; p < n; p++) {
                for (int q = 0; q < n; q++) {
                    if (route == 16 * c + 4 * p + q) {
                        int before = (int) automata[a].step[c][p][q];
                        automata[a].step[c][p][q] = modulo(value);
                        return before;
                    }
                }
            }
        }
        return -2;
    }

    int weave(int a, int seed) {
        if (bad(a)) {
            return -1;
        }
        if (seed < 0 || seed > 996) {
            return -2;
        }
        Automaton x = automata[a];
        for (int p = 0; p < x.size(); p++) {
            x.start[p] = modulo(seed + p);
            x.end[p] = modulo(1 + seed * p);
            for (int c = 0; c < 2; c++) {
                for (int q = 0; q < x.size(); q++) {
                    x.step[c][p][q] = modulo(seed * (p + 1) + 3 * q + c * (p + q));
                    if ((p + 2 * q + c + seed) % 3 == 0) {
                        x.step[c][p][q] = 0;
                    }
                }
            }
        }
        return 0;
    }

    int mirror(int a, int b) {
        if (bad(a) || bad(b)) {
            return -1;
        }
        if (a == b) {
            return -2;
        }
        Automaton from = automata[b];
        int n = from.size();
        Automaton to = Automaton.empty(n);
        for (int p = 0; p < n; p++) {
            to.start[p] = from.start[n - 1 - p];
            to.end[p] = from.end[n - 1 - p];
            for (int c = 0; c < 2; c++) {
                for (int q = 0; q < n; q++) {
                    to.step[c][p][q] = from.step[c][n - 1 - p][n - 1 - q];
                }
            }
        }
        automata[a] = to;
        return 0;
    }

    int scale(int a, int b, int factor) {
        if (bad(a) || bad(b)) {
            return -1;
        }
        Automaton copy = automata[b].beside(Automaton.empty(0), 1);
        for (int q = 0; q < copy.size(); q++) {
            copy.start[q] = modulo(copy.start[q] * (long) factor);
        }
        automata[a] = copy;
        return 0;
    }

    int states(int a) {
        return bad(a) ? -1 : automata[a].size();
    }

    int weight(int a, int code) {
        if (bad(a)) {
            return -1;
        }
        if (code < 1 || code > 1023) {
            return -2;
        }
        return (int) weightByRows(automata[a], Integer.toBinaryString(code).substring(1));
    }

    int equivalent(int a, int b) {
        if (bad(a) || bad(b)) {
            return -1;
        }
        return difference(a, b) == 0 ? 1 : 0;
    }

    int difference(int a, int b) {
        if (bad(a) || bad(b)) {
            return -1;
        }
        return leastCode(automata[a].beside(automata[b], -1));
    }

    /** The rank is that of the products of what the words before and the words behind span. */
    int rank(int a) {
        if (bad(a)) {
            return -1;
        }
        Automaton x = automata[a];
        List<long[]> fronts = new ArrayList<>();
        for (Word word : spanning(x)) {
            fronts.add(word.vector);
        }
        List<long[]> backs = new ArrayList<>();
        for (Word word : spanning(turned(x))) {
            backs.add(word.vector);
        }
        Basis products = new Basis();
        for (long[] front : fronts) {
            long[] row = new long[backs.size()];
            for (int i = 0; i < row.length; i++) {
                row[i] = product(front, backs.get(i));
            }
            products.add(row);
        }
        return products.rows.size();
    }

    int total(int a, int n) {
        if (bad(a)) {
            return -1;
        }
        if (n < 0 || n > 200) {
            return -2;
        }
        Automaton x = automata[a];
        if (n <= 5) {
            long sum = 0;
            for (int code = 1 << n; code < 2 << n; code++) {
                sum += weightByRows(x, Integer.toBinaryString(code).substring(1));
            }
            return (int) modulo(sum);
        }
        long[] behind = x.end.clone();
        for (int i = 0; i < n; i++) {
            long[] zero = product(x.step[0], behind);
            long[] one = product(x.step[1], behind);
            for (int q = 0; q < behind.length; q++) {
                behind[q] = modulo(zero[q] + one[q]);
            }
        }
        return (int) product(x.start, behind);
    }

    int first(int a) {
        return bad(a) ? -1 : leastCode(automata[a]);
    }

    int isSum(int a, int b, int c) {
        if (bad(a) || bad(b) || bad(c)) {
            return -1;
        }
        Automaton sum = automata[a].beside(automata[b], 1);
        return leastCode(sum.beside(automata[c], -1)) == 0 ? 1 : 0;
    }

    private static boolean bad(int a) {
        return a != 0 && a != 1 && a != 2;
    }

    private static long modulo(long value) {
        return Math.floorMod(value, (long) M);
    }

    private static long inverse(long value) {
        for (long i = 1; i < M; i++) {
            if (value * i % M == 1) {
                return i;
            }
        }
        throw new ArithmeticException("no inverse of " + value);
    }

    private static long product(long[] front, long[] back) {
        long sum = 0;
        for (int q = 0; q < front.length; q++) {
            sum += front[q] * back[q];
        }
        return modulo(sum);
    }

    private static long[] product(long[][] matrix, long[] back) {
        long[] result = new long[back.length];
        for (int p = 0; p < back.length; p++) {
            result[p] = product(matrix[p], back);
        }
        return result;
    }

    private static long[] product(long[] front, long[][] matrix) {
        long[] result = new long[front.length];
        for (int q = 0; q < front.length; q++) {
            for (int p = 0; p < front.length; p++) {
                result[q] += front[p] * matrix[p][q];
            }
            result[q] = modulo(result[q]);
        }
        return result;
    }

    private static Automaton turned(Automaton x) {
        Automaton back = Automaton.empty(x.size());
        for (int p = 0; p < x.size(); p++) {
            back.start[p] = x.end[p];
            back.end[p] = x.start[p];
            for (int c = 0; c < 2; c++) {
                for (int q = 0; q < x.size(); q++) {
                    back.step[c][p][q] = x.step[c][q][p];
                }
            }
        }
        return back;
    }

    /** The sum over all rows of states as the document writes it; an index counts the rows. */
    private static long weightByRows(Automaton x, String word) {
        int n = x.size();
        int places = word.length() + 1;
        long rows = 1;
        for (int i = 0; i < places; i++) {
            rows *= n;
        }
        long sum = 0;
        for (long row = 0; row < rows; row++) {
            long left = row / n;
            int state = (int) (row % n);
            long term = x.start[state];
            for (int i = 0; i < word.length() && term != 0; i++) {
                int next = (int) (left % n);
                left /= n;
                term = term * x.step[word.charAt(i) - '0'][state][next] % M;
                state = next;
            }
            if (term != 0) {
                sum += term * x.end[state];
            }
        }
        return modulo(sum);
    }

    /**
     * The words, in the order of their codes, whose vectors no words before them span. A word
     * that goes on from a spanned one is spanned by words before it too, so none is missed.
     */
    private static List<Word> spanning(Automaton x) {
        Basis basis = new Basis();
        List<Word> kept = new ArrayList<>();
        if (basis.add(x.start)) {
            kept.add(new Word(1, x.start));
        }
        for (int i = 0; i < kept.size(); i++) {
            Word word = kept.get(i);
            for (int c = 0; c < 2; c++) {
                long[] vector = product(word.vector, x.step[c]);
                if (basis.add(vector)) {
                    kept.add(new Word(2 * word.code + c, vector));
                }
            }
        }
        return kept;
    }

    private static int leastCode(Automaton x) {
        for (Word word : spanning(x)) {
            if (product(word.vector, x.end) != 0) {
                return word.code;
            }
        }
        return 0;
    }
}
