/** Automata whose weights can be told without the program, and arguments at the edges. */
final class Made {
    static final int LEAST = Integer.MIN_VALUE;
    static final int GREATEST = Integer.MAX_VALUE;

    static final int[] NOT_AUTOMATA = {-1, 3, 4, -3, 1 << 16, LEAST, GREATEST};

    /** The letters of a ring, the first in the highest of four bits. */
    static final int ZEROS = 0b0000;
    static final int ONES = 0b1111;

    /** A value and what it is modulo 997, in turn. */
    static final int[] VALUES_AND_RESTS = {
        0, 0, 1, 1, 996, 996, 997, 0, 998, 1, 1993, 996, 1994, 0, 1995, 1,
        -1, 996, -2, 995, -996, 1, -997, 0, -998, 996, -1994, 0, -1995, 996,
        GREATEST, 482, GREATEST - 1, 481, LEAST, 514, LEAST + 1, 515};

    private Made() {
    }

    /** One state in which letter 0 weighs 2, letter 1 weighs 3 and the end 5. */
    static void twoThree(WeightedWords x, int a) {
        x.size(a, 1);
        x.mark(a, 0, 0, 1);
        x.mark(a, 0, 1, 5);
        x.step(a, 0, 2);
        x.step(a, 16, 3);
    }

    /**
     * Four states in a ring, each left on one letter. Only the words that follow the ring from
     * state 0 to state 3 have a weight: those of 3, 7, 11, .. letters weigh start,
     * start * closing, start * closing^2, ..
     */
    static void ring(WeightedWords x, int a, int letters, int start, int closing) {
        x.size(a, 4);
        x.mark(a, 0, 0, start);
        x.mark(a, 3, 1, 1);
        for (int p = 0; p < 3; p++) {
            x.step(a, 16 * ringLetter(letters, p) + 4 * p + p + 1, 1);
        }
        x.step(a, 16 * ringLetter(letters, 3) + 12, closing);
    }

    static int ringCode(int letters, int length) {
        int code = 1;
        for (int i = 0; i < length; i++) {
            code = 2 * code + ringLetter(letters, i % 4);
        }
        return code;
    }

    private static int ringLetter(int letters, int place) {
        return letters >> (3 - place) & 1;
    }

    /** Every word weighs its code: state 0 holds the code so far, state 1 holds 1. */
    static void codes(WeightedWords x, int a) {
        x.size(a, 2);
        x.mark(a, 0, 0, 1);
        x.mark(a, 1, 0, 1);
        x.mark(a, 0, 1, 1);
        for (int letter = 0; letter < 2; letter++) {
            x.step(a, 16 * letter, 2);
            x.step(a, 16 * letter + 4, letter);
            x.step(a, 16 * letter + 5, 1);
        }
    }

    /** All numbers the same, so that a word of k letters weighs number^(k+2) * size^(k+1). */
    static void level(WeightedWords x, int a, int size, int number) {
        x.size(a, size);
        for (int q = 0; q < size; q++) {
            x.mark(a, q, 0, number);
            x.mark(a, q, 1, number);
        }
        for (int route = 0; route < 32; route++) {
            if (isRoute(size, route)) {
                x.step(a, route, number);
            }
        }
    }

    static int levelWeight(int size, int number, int letters) {
        return power(number, letters + 2) * power(size, letters + 1) % 997;
    }

    /** One state in which the empty word alone has a weight. */
    static void emptyWord(WeightedWords x, int a, int weight) {
        x.size(a, 1);
        x.mark(a, 0, 0, 1);
        x.mark(a, 0, 1, weight);
    }

    static boolean isRoute(int size, int route) {
        return route >= 0 && route < 32 && route / 4 % 4 < size && route % 4 < size;
    }

    static int power(int base, int exponent) {
        int product = 1;
        for (int i = 0; i < exponent; i++) {
            product = product * base % 997;
        }
        return product;
    }
}
