/** Automata that give every word a weight, compared exactly. */
public final class WeightedWords {
    private static final int MODULUS = 997;
    private static final int AUTOMATA = 3;
    private static final int MOST_STATES = 4;
    private static final int LETTERS = 2;
    private static final int ROUTES = 32;
    private static final int GREATEST_CODE = 1023;
    private static final int GREATEST_LENGTH = 200;

    // Automata with n states in all that agree on every word of fewer than n letters agree on
    // every word: each further length must add a dimension to the n there are, or adds nothing.
    // So 4, 8 and 12 states need the words of at most 3, 7 and 11 letters, up to these codes.
    private static final int CODES_FOR_ONE = 15;
    private static final int CODES_FOR_TWO = 255;
    private static final int CODES_FOR_THREE = 4095;
    private static final int LONGEST_WORD = 11;

    // The table has a row and a column for each word of at most 3 letters.
    private static final int TABLE_SIDE = 15;

    private static final int STATE_CELLS = 12;
    private static final int STEP_CELLS = 96;
    private static final int TABLE_CELLS = 225;

    private final int[] sizes = new int[AUTOMATA];
    private final int[] starts = new int[STATE_CELLS];
    private final int[] ends = new int[STATE_CELLS];
    private final int[] steps = new int[STEP_CELLS];

    // Room for working out answers; nothing in these is kept from one call to the next.
    private final int[] reached = new int[MOST_STATES];
    private final int[] reachedNext = new int[MOST_STATES];
    private final int[] table = new int[TABLE_CELLS];

    public WeightedWords() {
        for (int a = 0; a < AUTOMATA; a++) {
            sizes[a] = 1;
        }
    }

    public int size(int a, int size) {
        if (!isAutomaton(a)) {
            return -1;
        }
        if (size < 1 || size > MOST_STATES) {
            return -2;
        }
        int before = sizes[a];
        sizes[a] = size;
        clearNumbers(a);
        return before;
    }

    public int mark(int a, int q, int which, int value) {
        if (!isAutomaton(a)) {
            return -1;
        }
        if (!isState(a, q)) {
            return -2;
        }
        int cell = stateCell(a, q);
        int before;
        if (which == 0) {
            before = starts[cell];
            starts[cell] = residue(value);
        } else {
            before = ends[cell];
            ends[cell] = residue(value);
        }
        return before;
    }

    public int step(int a, int route, int value) {
        if (!isAutomaton(a)) {
            return -1;
        }
        if (!isRoute(a, route)) {
            return -2;
        }
        int cell = ROUTES * a + route;
        int before = steps[cell];
        steps[cell] = residue(value);
        return before;
    }

    public int weave(int a, int seed) {
        if (!isAutomaton(a)) {
            return -1;
        }
        if (seed < 0 || seed >= MODULUS) {
            return -2;
        }
        for (int q = 0; q < sizes[a]; q++) {
            int cell = stateCell(a, q);
            starts[cell] = residue(seed + q);
            ends[cell] = residue(1 + seed * q);
        }
        for (int letter = 0; letter < LETTERS; letter++) {
            weaveSteps(a, seed, letter);
        }
        return 0;
    }

    public int mirror(int a, int b) {
        if (!isAutomaton(a) || !isAutomaton(b)) {
            return -1;
        }
        if (a == b) {
            return -2;
        }
        sizes[a] = sizes[b];
        for (int q = 0; q < sizes[b]; q++) {
            int from = stateCell(b, q);
            int to = stateCell(a, sizes[b] - 1 - q);
            starts[to] = starts[from];
            ends[to] = ends[from];
        }
        for (int letter = 0; letter < LETTERS; letter++) {
            mirrorSteps(a, b, letter);
        }
        return 0;
    }

    public int scale(int a, int b, int factor) {
        if (!isAutomaton(a) || !isAutomaton(b)) {
            return -1;
        }
        copyNumbers(a, b);
        // Reduced before it multiplies, so that no product leaves the range of int.
        int smallFactor = residue(factor);
        for (int q = 0; q < sizes[a]; q++) {
            int cell = stateCell(a, q);
            starts[cell] = residue(starts[cell] * smallFactor);
        }
        return 0;
    }

    public int states(int a) {
        if (!isAutomaton(a)) {
            return -1;
        }
        return sizes[a];
    }

    public int weight(int a, int code) {
        if (!isAutomaton(a)) {
            return -1;
        }
        if (code < 1 || code > GREATEST_CODE) {
            return -2;
        }
        return weightOf(a, code);
    }

    public int equivalent(int a, int b) {
        if (!isAutomaton(a) || !isAutomaton(b)) {
            return -1;
        }
        return leastDifference(a, b) == 0 ? 1 : 0;
    }

    public int difference(int a, int b) {
        if (!isAutomaton(a) || !isAutomaton(b)) {
            return -1;
        }
        return leastDifference(a, b);
    }

    public int rank(int a) {
        if (!isAutomaton(a)) {
            return -1;
        }
        fillTable(a);
        return tableRank();
    }

    public int total(int a, int n) {
        if (!isAutomaton(a)) {
            return -1;
        }
        if (n < 0 || n > GREATEST_LENGTH) {
            return -2;
        }
        reachStarts(a);
        for (int length = 0; length < n; length++) {
            reachOn(a, 0, LETTERS - 1);
        }
        return weightReached(a);
    }

    public int first(int a) {
        if (!isAutomaton(a)) {
            return -1;
        }
        for (int code = 1; code <= CODES_FOR_ONE; code++) {
            if (weightOf(a, code) != 0) {
                return code;
            }
        }
        return 0;
    }

    public int isSum(int a, int b, int c) {
        if (!isAutomaton(a) || !isAutomaton(b) || !isAutomaton(c)) {
            return -1;
        }
        for (int code = 1; code <= CODES_FOR_THREE; code++) {
            int sum = weightOf(a, code) + weightOf(b, code);
            if (residue(sum) != weightOf(c, code)) {
                return 0;
            }
        }
        return 1;
    }

    private static boolean isAutomaton(int a) {
        return a >= 0 && a < AUTOMATA;
    }

    private boolean isState(int a, int q) {
        return q >= 0 && q < sizes[a];
    }

    private boolean isRoute(int a, int route) {
        if (route < 0 || route >= ROUTES) {
            return false;
        }
        int p = (route >> 2) & 3;
        int q = route & 3;
        return isState(a, p) && isState(a, q);
    }

    private static int residue(int value) {
        int rest = value % MODULUS;
        return rest < 0 ? rest + MODULUS : rest;
    }

    private static int stateCell(int a, int q) {
        return MOST_STATES * a + q;
    }

    private static int stepCell(int a, int letter, int p, int q) {
        return ROUTES * a + 16 * letter + 4 * p + q;
    }

    private void clearNumbers(int a) {
        for (int q = 0; q < MOST_STATES; q++) {
            int cell = stateCell(a, q);
            starts[cell] = 0;
            ends[cell] = 0;
        }
        for (int route = 0; route < ROUTES; route++) {
            steps[ROUTES * a + route] = 0;
        }
    }

    private void copyNumbers(int a, int b) {
        sizes[a] = sizes[b];
        for (int q = 0; q < MOST_STATES; q++) {
            int from = stateCell(b, q);
            int to = stateCell(a, q);
            starts[to] = starts[from];
            ends[to] = ends[from];
        }
        for (int route = 0; route < ROUTES; route++) {
            steps[ROUTES * a + route] = steps[ROUTES * b + route];
        }
    }

    private void weaveSteps(int a, int seed, int letter) {
        for (int p = 0; p < sizes[a]; p++) {
            for (int q = 0; q < sizes[a]; q++) {
                int number = seed * (p + 1) + 3 * q + letter * (p + q);
                boolean absent = (p + 2 * q + letter + seed) % 3 == 0;
                int cell = stepCell(a, letter, p, q);
                steps[cell] = absent ? 0 : residue(number);
            }
        }
    }

    private void mirrorSteps(int a, int b, int letter) {
        int last = sizes[b] - 1;
        for (int p = 0; p <= last; p++) {
            for (int q = 0; q <= last; q++) {
                int from = stepCell(b, letter, p, q);
                int to = stepCell(a, letter, last - p, last - q);
                steps[to] = steps[from];
            }
        }
    }

    private int weightOf(int a, int code) {
        reachStarts(a);
        for (int place = lengthOf(code) - 1; place >= 0; place--) {
            int letter = (code >> place) & 1;
            reachOn(a, letter, letter);
        }
        return weightReached(a);
    }

    private static int lengthOf(int code) {
        int length = 0;
        for (int place = 1; place <= LONGEST_WORD; place++) {
            if (code >> place != 0) {
                length = place;
            }
        }
        return length;
    }

    private void reachStarts(int a) {
        for (int q = 0; q < sizes[a]; q++) {
            reached[q] = starts[stateCell(a, q)];
        }
    }

    // A range of letters and not one alone, because the words of one length can be summed
    // together: each place then takes every letter at once.
    private void reachOn(int a, int lowLetter, int highLetter) {
        for (int q = 0; q < sizes[a]; q++) {
            int sum = 0;
            for (int letter = lowLetter; letter <= highLetter; letter++) {
                for (int p = 0; p < sizes[a]; p++) {
                    sum += reached[p] * steps[stepCell(a, letter, p, q)];
                }
            }
            reachedNext[q] = residue(sum);
        }
        for (int q = 0; q < sizes[a]; q++) {
            reached[q] = reachedNext[q];
        }
    }

    private int weightReached(int a) {
        int sum = 0;
        for (int q = 0; q < sizes[a]; q++) {
            sum += reached[q] * ends[stateCell(a, q)];
        }
        return residue(sum);
    }

    private int leastDifference(int a, int b) {
        for (int code = 1; code <= CODES_FOR_TWO; code++) {
            if (weightOf(a, code) != weightOf(b, code)) {
                return code;
            }
        }
        return 0;
    }

    private void fillTable(int a) {
        for (int row = 0; row < TABLE_SIDE; row++) {
            for (int column = 0; column < TABLE_SIDE; column++) {
                int joined = joinedCode(row + 1, column + 1);
                table[TABLE_SIDE * row + column] = weightOf(a, joined);
            }
        }
    }

    private static int joinedCode(int code, int codeBehind) {
        int length = lengthOf(codeBehind);
        int letters = codeBehind - (1 << length);
        return (code << length) + letters;
    }

    private int tableRank() {
        int found = 0;
        for (int column = 0; column < TABLE_SIDE; column++) {
            int pivot = pivotRow(found, column);
            if (pivot >= 0) {
                swapRows(found, pivot);
                clearBelow(found, column);
                found++;
            }
        }
        return found;
    }

    private int pivotRow(int top, int column) {
        for (int row = top; row < TABLE_SIDE; row++) {
            if (table[TABLE_SIDE * row + column] != 0) {
                return row;
            }
        }
        return -1;
    }

    private void swapRows(int one, int other) {
        for (int column = 0; column < TABLE_SIDE; column++) {
            int kept = table[TABLE_SIDE * one + column];
            table[TABLE_SIDE * one + column] = table[TABLE_SIDE * other + column];
            table[TABLE_SIDE * other + column] = kept;
        }
    }

    // Each lower row is first multiplied by the pivot, which is not 0 and 997 is prime: this
    // leaves the rank as it is and spares finding an inverse.
    private void clearBelow(int top, int column) {
        int pivot = table[TABLE_SIDE * top + column];
        for (int row = top + 1; row < TABLE_SIDE; row++) {
            int factor = table[TABLE_SIDE * row + column];
            for (int k = column; k < TABLE_SIDE; k++) {
                int own = table[TABLE_SIDE * row + k] * pivot;
                int taken = table[TABLE_SIDE * top + k] * factor;
                table[TABLE_SIDE * row + k] = residue(own - taken);
            }
        }
    }
}
