import java.util.List;
import java.util.function.IntUnaryOperator;

/** The boundary cases that the document names before its promises, a test for each sentence. */
public final class TermsTest {
    private static final int LEAST = Made.LEAST;
    private static final int GREATEST = Made.GREATEST;

    /** A call with an automaton in one place, and its answer on a new object if it is good. */
    private record Place(String call, int whenGood, IntUnaryOperator asked) {
    }

    public static void main(String[] args) {
        Due.sentence("An object is used for at most 512 calls after it has been made",
            TermsTest::the512thCall);
        Due.sentence("All numbers are modulo 997, 0 .. 996.", TermsTest::numbersWrapAround);
        Due.sentence("A WORD is a row of letters 0 and 1 of any length.",
            TermsTest::wordsBeyondTheCodes);
        Due.sentence("There are three AUTOMATA, 0 .. 2.", TermsTest::threeAutomata);
        Due.sentence("An automaton has 1 to 4 STATES, 0 .. size-1, one at first",
            TermsTest::oneToFourStates);
        Due.sentence("all are 0 at first", TermsTest::allZeroAtFirst);
        Due.sentence("(For the empty word: the sum of start(q) * end(q).)",
            TermsTest::emptyWordWeight);
        Due.sentence("A word's CODE is 1 for the empty word, and twice the code plus the letter"
            + " for a word with one letter more at its end", TermsTest::codesOfWords);
        Due.sentence("so shorter words have lesser codes, and words of the same length are in"
            + " order of their letters", TermsTest::orderOfCodes);
        Due.sentence("the table whose rows and columns are all words of at most 3 letters",
            TermsTest::tableOfThreeLetters);
        Due.sentence("(rank over the numbers modulo 997)", TermsTest::rankModulo997);
        Due.sentence("In every method the tests are made in the order named",
            TermsTest::orderOfTests);
        Due.sentence("an automaton is good if it is 0 .. 2", TermsTest::goodAutomata);
        Due.sentence("a state of it if it is 0 .. size-1", TermsTest::goodStates);
        Due.sentence("a letter if it is 0 or 1", TermsTest::goodLetters);
        Due.sentence("a code if it is in 1 .. 1023", TermsTest::goodCodes);
        Due.end();
    }

    private static void the512thCall() {
        WeightedWords x = new WeightedWords();
        for (int call = 1; call <= 512; call++) {
            Due.due("call " + call + ", mark", x.mark(2, 0, 1, call), (call - 1) % 997);
        }
        for (Place place : places(new WeightedWords())) {
            the512thCall(place.call);
        }
    }

    private static void the512thCall(String call) {
        WeightedWords x = new WeightedWords();
        for (int i = 1; i <= 511; i++) {
            x.states(i % 3);
        }
        for (Place place : places(x)) {
            if (place.call.equals(call)) {
                Due.due("the 512th call, " + call, place.asked.applyAsInt(2), place.whenGood);
            }
        }
    }

    private static void numbersWrapAround() {
        for (int size = 1; size <= 4; size++) {
            WeightedWords x = new WeightedWords();
            Made.level(x, 1, size, 996);
            for (int letters = 0; letters <= 9; letters++) {
                int due = Made.levelWeight(size, 996, letters);
                Due.due("all 996: least of " + letters, x.weight(1, 1 << letters), due);
                Due.due("all 996: greatest of " + letters, x.weight(1, (2 << letters) - 1), due);
            }
            for (int n = 0; n <= 200; n++) {
                int due = Made.levelWeight(size, 996, n) * Made.power(2, n) % 997;
                Due.due("all 996: total(1, " + n + ")", x.total(1, n), due);
            }
        }
        weightsAroundTheModulus();
    }

    private static void weightsAroundTheModulus() {
        WeightedWords x = new WeightedWords();
        x.size(0, 2);
        x.mark(0, 0, 0, 1);
        x.mark(0, 1, 0, 1);
        x.mark(0, 0, 1, 996);
        int[] others = {0, 996, 1, 0, 2, 1, 995, 994, 996, 995};
        for (int i = 0; i < others.length; i += 2) {
            x.mark(0, 1, 1, others[i]);
            String sum = "996 + " + others[i];
            Due.due(sum + ", weight", x.weight(0, 1), others[i + 1]);
            Due.due(sum + ", total", x.total(0, 0), others[i + 1]);
            Due.due(sum + ", first", x.first(0), others[i + 1] == 0 ? 0 : 1);
            Due.due(sum + ", rank", x.rank(0), others[i + 1] == 0 ? 0 : 1);
            Due.due(sum + ", equivalent", x.equivalent(0, 1), others[i + 1] == 0 ? 1 : 0);
        }
    }

    /** A code has room for nine letters, but words of ten and more count as well. */
    private static void wordsBeyondTheCodes() {
        WeightedWords x = new WeightedWords();
        Made.ring(x, 0, Made.ONES, 1, 1);
        Made.ring(x, 1, Made.ONES, 1, 3);
        Made.ring(x, 2, Made.ONES, 2, 2);
        for (int code = 1; code <= 127; code++) {
            int sum = (x.weight(0, code) + x.weight(1, code)) % 997;
            Due.due("in c, code " + code, x.weight(2, code), sum);
        }
        Due.due("the sum but for words of eleven letters", x.isSum(0, 1, 2), 0);
        Due.due("eleven letters", x.total(1, 11), 9);
        Due.due("two hundred letters", x.total(1, 200), 0);
        Due.due("one hundred and ninety-nine letters", x.total(2, 199),
            Made.power(2, 50));
    }

    private static void threeAutomata() {
        WeightedWords x = new WeightedWords();
        for (int a = 0; a < 3; a++) {
            Due.due("mark(" + a + ")", x.mark(a, 0, 0, 10 + a), 0);
            Due.due("step(" + a + ")", x.step(a, 16, 20 + a), 0);
            Due.due("size(" + a + ")", x.states(a), 1);
        }
        Due.same("three apart", Due.everything(x),
            List.of(1, 10, 0, 0, 20, 1, 11, 0, 0, 21, 1, 12, 0, 0, 22));
        Due.due("states(-1)", x.states(-1), -1);
        Due.due("states(3)", x.states(3), -1);
    }

    private static void oneToFourStates() {
        for (int a = 0; a < 3; a++) {
            Due.due("one state at first", new WeightedWords().states(a), 1);
            Due.due("one state before", new WeightedWords().size(a, 4), 1);
            Due.due("no state 1 at first", new WeightedWords().mark(a, 1, 0, 5), -2);
            for (int size = 1; size <= 4; size++) {
                WeightedWords x = new WeightedWords();
                x.size(a, size);
                Due.due("states(" + a + ")", x.states(a), size);
                Due.due("state 0 of " + size, x.mark(a, 0, 0, 5), 0);
                Due.due("the last of " + size, x.mark(a, size - 1, 1, 5), 0);
                Due.due("one more than " + size, x.mark(a, size, 1, 5), -2);
            }
            Due.due("no states", new WeightedWords().size(a, 0), -2);
            Due.due("five states", new WeightedWords().size(a, 5), -2);
        }
    }

    private static void allZeroAtFirst() {
        for (int a = 0; a < 3; a++) {
            WeightedWords x = new WeightedWords();
            Due.due("start at first", x.mark(a, 0, 0, 996), 0);
            Due.due("end at first", x.mark(a, 0, 1, 996), 0);
            Due.due("step on 0 at first", x.step(a, 0, 996), 0);
            Due.due("step on 1 at first", x.step(a, 16, 996), 0);
            // What one object holds is not there in the next.
            Due.due("start at first again", new WeightedWords().mark(a, 0, 0, 0), 0);
        }
    }

    private static void emptyWordWeight() {
        for (int size = 1; size <= 4; size++) {
            WeightedWords x = new WeightedWords();
            Made.level(x, 2, size, 7);
            int sum = 0;
            for (int q = 0; q < size; q++) {
                x.mark(2, q, 0, 3 + q);
                x.mark(2, q, 1, 100 * (q + 1));
                sum += (3 + q) * 100 * (q + 1);
            }
            Due.due(size + " states: weight(2, 1)", x.weight(2, 1), sum % 997);
            Due.due(size + " states: total(2, 0)", x.total(2, 0), sum % 997);
            Due.due(size + " states: first(2)", x.first(2), 1);
        }
    }

    /** An automaton weighs each word as its code; the greatest codes go beyond 997. */
    private static void codesOfWords() {
        for (int from = 1; from <= 1023; from += 400) {
            WeightedWords x = new WeightedWords();
            Made.codes(x, 1);
            for (int code = from; code < from + 400 && code <= 1023; code++) {
                Due.due("the code of " + code, x.weight(1, code), code % 997);
            }
        }
    }

    private static void orderOfCodes() {
        WeightedWords x = new WeightedWords();
        // 1 and 00 have a weight: the shorter word is first although its letter is greater.
        x.size(0, 3);
        x.mark(0, 0, 0, 1);
        x.mark(0, 2, 1, 1);
        x.step(0, 16 + 2, 1);
        x.step(0, 1, 1);
        x.step(0, 4 + 2, 1);
        Due.due("weight of 00", x.weight(0, 4), 1);
        Due.due("first of 1 and 00", x.first(0), 3);
        Due.due("difference by 1 and 00", x.difference(0, 2), 3);
        // 01 and 10 have a weight: the one with the lesser letter in front is first.
        x.size(1, 4);
        x.mark(1, 0, 0, 1);
        x.mark(1, 3, 1, 1);
        x.step(1, 1, 1);
        x.step(1, 16 + 4 + 3, 1);
        x.step(1, 16 + 2, 1);
        x.step(1, 8 + 3, 1);
        Due.due("weight of 10", x.weight(1, 6), 1);
        Due.due("first of 01 and 10", x.first(1), 5);
        Due.due("difference by 01 and 10", x.difference(2, 1), 5);
        x.step(1, 1, 0);
        Due.due("first of 10 alone", x.first(1), 6);
        Due.due("difference by 10 alone", x.difference(2, 1), 6);
    }

    /** Rows and columns of three letters are needed on each side for the rank of a chain. */
    private static void tableOfThreeLetters() {
        for (int letters = 0; letters < 16; letters++) {
            WeightedWords x = new WeightedWords();
            Made.ring(x, 0, letters, 1, 0);
            Due.due("rank of chain " + letters, x.rank(0), 4);
            // One letter less on either side: begun at state 1, or ended at state 2.
            x.mark(0, 0, 0, 0);
            x.mark(0, 1, 0, 1);
            Due.due("rank of chain " + letters + " begun later", x.rank(0), 3);
            Made.ring(x, 1, letters, 1, 0);
            x.mark(1, 3, 1, 0);
            x.mark(1, 2, 1, 1);
            Due.due("rank of chain " + letters + " ended sooner", x.rank(1), 3);
        }
    }

    private static void rankModulo997() {
        WeightedWords x = new WeightedWords();
        // 1, 100, 30 (10000 modulo 997): two rows of which one is 100 times the other.
        x.mark(0, 0, 0, 1);
        x.mark(0, 0, 1, 1);
        x.step(0, 0, 100);
        Due.due("rank of 1, 100, 30, ..", x.rank(0), 1);
        // 1, 996, 1, ..: whole numbers would make rank 2, but each row is 996 times the other.
        x.size(1, 1);
        x.mark(1, 0, 0, 996);
        x.mark(1, 0, 1, 996);
        x.step(1, 0, 996);
        Due.due("weight of the empty word", x.weight(1, 1), 1);
        Due.due("weight of 0", x.weight(1, 2), 996);
        Due.due("rank of 1, 996, 1, ..", x.rank(1), 1);
        // Two loops, by 1 and by 996: 1 + 1, 1 - 1, 1 + 1, .. has rank 2.
        x.size(2, 2);
        for (int q = 0; q < 2; q++) {
            x.mark(2, q, 0, 1);
            x.mark(2, q, 1, 1);
        }
        x.step(2, 0, 1);
        x.step(2, 5, 996);
        Due.due("rank of 2, 0, 2, ..", x.rank(2), 2);
        x.mark(2, 1, 1, 997);
        Due.due("rank with an end of 997", x.rank(2), 1);
    }

    private static void orderOfTests() {
        for (int a : new int[] {-1, 3, LEAST, GREATEST}) {
            for (int wrong : new int[] {-1, 1024, LEAST, GREATEST}) {
                WeightedWords x = new WeightedWords();
                String with = " with " + a + " and " + wrong;
                Due.due("size" + with, x.size(a, wrong), -1);
                Due.due("mark" + with, x.mark(a, wrong, wrong, wrong), -1);
                Due.due("step" + with, x.step(a, wrong, wrong), -1);
                Due.due("weave" + with, x.weave(a, wrong), -1);
                Due.due("weight" + with, x.weight(a, wrong), -1);
                Due.due("total" + with, x.total(a, wrong), -1);
            }
            Due.due("mirror with " + a + " twice", new WeightedWords().mirror(a, a), -1);
        }
    }

    private static List<Place> places(WeightedWords x) {
        return List.of(
            new Place("size(a, 1)", 1, a -> x.size(a, 1)),
            new Place("mark(a, 0, 0, 5)", 0, a -> x.mark(a, 0, 0, 5)),
            new Place("mark(a, 0, 1, 5)", 0, a -> x.mark(a, 0, 1, 5)),
            new Place("step(a, 0, 5)", 0, a -> x.step(a, 0, 5)),
            new Place("weave(a, 5)", 0, a -> x.weave(a, 5)),
            new Place("mirror(a, b)", 0, a -> x.mirror(a, a == 0 ? 1 : 0)),
            new Place("mirror(b, a)", 0, a -> x.mirror(a == 2 ? 1 : 2, a)),
            new Place("scale(a, 0, 5)", 0, a -> x.scale(a, 0, 5)),
            new Place("scale(2, a, 5)", 0, a -> x.scale(2, a, 5)),
            new Place("states(a)", 1, x::states),
            new Place("weight(a, 1)", 0, a -> x.weight(a, 1)),
            new Place("equivalent(a, 1)", 1, a -> x.equivalent(a, 1)),
            new Place("equivalent(1, a)", 1, a -> x.equivalent(1, a)),
            new Place("difference(a, 1)", 0, a -> x.difference(a, 1)),
            new Place("difference(1, a)", 0, a -> x.difference(1, a)),
            new Place("rank(a)", 0, x::rank),
            new Place("total(a, 0)", 0, a -> x.total(a, 0)),
            new Place("first(a)", 0, x::first),
            new Place("isSum(a, 0, 2)", 1, a -> x.isSum(a, 0, 2)),
            new Place("isSum(2, a, 0)", 1, a -> x.isSum(2, a, 0)),
            new Place("isSum(0, 2, a)", 1, a -> x.isSum(0, 2, a)));
    }

    private static void goodAutomata() {
        int count = places(new WeightedWords()).size();
        for (int i = 0; i < count; i++) {
            for (int a = 0; a < 3; a++) {
                Place place = places(new WeightedWords()).get(i);
                Due.due(place.call + ", a = " + a, place.asked.applyAsInt(a), place.whenGood);
            }
            for (int a : Made.NOT_AUTOMATA) {
                Place place = places(new WeightedWords()).get(i);
                Due.due(place.call + ", a = " + a, place.asked.applyAsInt(a), -1);
            }
        }
    }

    /** The automata have different sizes, so that another one's size would be noticed. */
    private static void goodStates() {
        for (int shift = 0; shift < 3; shift++) {
            WeightedWords x = new WeightedWords();
            for (int a = 0; a < 3; a++) {
                x.size(a, 1 + (a + shift) % 3);
            }
            for (int a = 0; a < 3; a++) {
                goodStates(x, a, 1 + (a + shift) % 3);
            }
        }
        WeightedWords x = new WeightedWords();
        x.size(1, 4);
        goodStates(x, 1, 4);
    }

    private static void goodStates(WeightedWords x, int a, int size) {
        String of = " of " + a + " with " + size;
        for (int q : new int[] {LEAST, -1, 0, size - 1, size, GREATEST}) {
            boolean good = q == 0 || q == size - 1;
            Due.due("start of " + q + of, x.mark(a, q, 0, 0), good ? 0 : -2);
            Due.due("end of " + q + of, x.mark(a, q, 1, 0), good ? 0 : -2);
        }
        for (int letter = 0; letter < 2; letter++) {
            int base = 16 * letter;
            int last = size - 1;
            Due.due("step 0 to 0" + of, x.step(a, base, 0), 0);
            Due.due("step last to last" + of, x.step(a, base + 5 * last, 0), 0);
            if (size < 4) {
                Due.due("step 0 to size" + of, x.step(a, base + size, 0), -2);
                Due.due("step size to 0" + of, x.step(a, base + 4 * size, 0), -2);
                Due.due("step size to size" + of, x.step(a, base + 5 * size, 0), -2);
                Due.due("step last to size" + of, x.step(a, base + 4 * last + size, 0), -2);
                Due.due("step size to last" + of, x.step(a, base + 4 * size + last, 0), -2);
            }
        }
    }

    private static void goodLetters() {
        for (int size = 1; size <= 4; size++) {
            WeightedWords x = new WeightedWords();
            x.size(0, size);
            int last = 5 * (size - 1);
            for (int letter = -3; letter <= 4; letter++) {
                boolean good = letter == 0 || letter == 1;
                String on = size + " states, letter " + letter;
                Due.due(on + ", 0 to 0", x.step(0, 16 * letter, 0), good ? 0 : -2);
                Due.due(on + ", last to last", x.step(0, 16 * letter + last, 0), good ? 0 : -2);
            }
        }
    }

    private static void goodCodes() {
        for (int a = 0; a < 3; a++) {
            WeightedWords x = new WeightedWords();
            Made.codes(x, a);
            Due.due("code 1", x.weight(a, 1), 1);
            Due.due("code 1023", x.weight(a, 1023), 26);
            for (int code : new int[] {0, -1, -1023, 1024, 1025, 2047, LEAST, GREATEST}) {
                Due.due("weight(" + a + ", " + code + ")", x.weight(a, code), -2);
            }
        }
    }
}
