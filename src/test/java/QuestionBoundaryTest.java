import java.util.function.IntBinaryOperator;
import java.util.function.ToIntFunction;

/** Promises 16 to 22: a test of its own for each sentence that names a boundary case. */
public final class QuestionBoundaryTest {
    private static final int MIN = Integer.MIN_VALUE;
    private static final int MAX = Integer.MAX_VALUE;

    private static final Due DUE = new Due("QuestionBoundaryTest");

    private interface Question {
        int ask(WeightedReader x, int i, int j);
    }

    public static void main(String[] args) {
        pairsThatAreNoWindow("16 ways: 0", WeightedReader::ways, 0);
        pairsThatAreNoWindow("17 least: BAD_ARG", WeightedReader::least, Code.BAD_ARG);
        pairsThatAreNoWindow("18 most: BAD_ARG", WeightedReader::most, Code.BAD_ARG);
        everyPair();
        emptyWindows();
        windowsWithoutReading();
        wrappedNumbers();
        windowsBoundaries();
        allWaysBoundaries();
        longestRange();
        longestBoundaries();
        coverOfFewLetters();
        coverPieces();
        questionsChangeNothing();
        DUE.finish();
    }

    // ---- promises 16 to 18

    private static void pairsThatAreNoWindow(String answer, Question question, int code) {
        DUE.sentence(answer + " if i is below 0", () -> {
            for (int n : new int[] {0, 1, 3, 8}) {
                notWindow(question, n, -1, -1, code);
                notWindow(question, n, -1, 0, code);
                notWindow(question, n, -1, n, code);
                notWindow(question, n, MIN, n, code);
            }
        });
        DUE.sentence(answer + " if j is above n", () -> {
            for (int n : new int[] {0, 1, 3, 7, 8}) {
                notWindow(question, n, 0, n + 1, code);
                notWindow(question, n, n, n + 1, code);
                notWindow(question, n, n + 1, n + 1, code);
                notWindow(question, n, 0, 9, code);
                notWindow(question, n, 0, MAX, code);
                notWindow(question, n, MAX, MAX, code);
            }
        });
        DUE.sentence(answer + " if i is above j", () -> {
            for (int n : new int[] {1, 3, 8}) {
                notWindow(question, n, 1, 0, code);
                notWindow(question, n, n, n - 1, code);
                notWindow(question, n, n, 0, code);
                notWindow(question, n, n + 1, n, code);
                notWindow(question, n, 0, -1, code);
            }
        });
        DUE.sentence(answer + " if i and j are as far off as can be", () -> {
            for (int n : new int[] {0, 8}) {
                notWindow(question, n, MIN, MIN, code);
                notWindow(question, n, MIN, MAX, code);
                notWindow(question, n, MAX, MIN, code);
                notWindow(question, n, MIN, 0, code);
                notWindow(question, n, 0, MIN, code);
                notWindow(question, n, MAX, 0, code);
            }
        });
        DUE.sentence(answer + " for the windows that shift has taken away", () -> {
            WeightedReader x = Given.fullText();
            for (int n = 8; n > 0; n--) {
                x.shift();
                DUE.due("up to the old end", question.ask(x, 0, n), code);
                DUE.due("at the old end", question.ask(x, n, n), code);
            }
        });
    }

    private static void notWindow(Question question, int n, int i, int j, int code) {
        String call = "(" + i + ", " + j + ") of " + n + " letters";
        Refused.due(DUE, call, () -> Given.textOf(n), x -> question.ask(x, i, j), code);
    }

    /** Under loop 1 (letter 0 3 | any 5) each window has a reading, so each pair tells. */
    private static void everyPair() {
        everyPair("16 ways: each pair from -2 to 10", WeightedReader::ways, 0,
            (i, j) -> 1 << zeros(i, j));
        everyPair("17 least: each pair from -2 to 10", WeightedReader::least, Code.BAD_ARG,
            (i, j) -> 6 * (j - i) - 2 * zeros(i, j));
        everyPair("18 most: each pair from -2 to 10", WeightedReader::most, Code.BAD_ARG,
            (i, j) -> 6 * (j - i));
    }

    private static void everyPair(
            String sentence, Question question, int code, IntBinaryOperator answer) {
        DUE.sentence(sentence, () -> {
            for (int n = 0; n <= 8; n++) {
                WeightedReader x = Given.textOf(n);
                for (int i = -2; i <= 10; i++) {
                    for (int j = -2; j <= 10; j++) {
                        boolean isWindow = 0 <= i && i <= j && j <= n;
                        String call = "(" + i + ", " + j + ") of " + n + " letters";
                        int due = isWindow ? answer.applyAsInt(i, j) : code;
                        DUE.due(call, question.ask(x, i, j), due);
                    }
                }
            }
        });
    }

    /** How many of the places i to j - 1 have the letter 0, in a text 0, 1, 2, 0, 1 .. */
    private static int zeros(int i, int j) {
        int found = 0;
        for (int place = i; place < j; place++) {
            found += place % 3 == 0 ? 1 : 0;
        }
        return found;
    }

    private static void emptyWindows() {
        DUE.sentence("16 to 18: the window is empty if i == j, at each place of each text", () -> {
            for (int n = 0; n <= 8; n++) {
                WeightedReader x = Given.textOf(n);
                for (int i = 0; i <= n; i++) {
                    DUE.due("ways", x.ways(i, i), 1);
                    DUE.due("least", x.least(i, i), 0);
                    DUE.due("most", x.most(i, i), 0);
                }
            }
        });
        DUE.sentence("16 to 18: the window (0, 0) of the empty text", () -> {
            WeightedReader x = new WeightedReader();
            DUE.due("ways by unit", x.ways(0, 0), 1);
            DUE.due("least by unit", x.least(0, 0), 0);
            DUE.due("most by unit", x.most(0, 0), 0);
            x.any(3);
            x.define();
            DUE.due("ways by any", x.ways(0, 0), 0);
            DUE.due("least by any", x.least(0, 0), Code.NONE);
            DUE.due("most by any", x.most(0, 0), Code.NONE);
        });
    }

    private static void windowsWithoutReading() {
        DUE.sentence("16 ways: 0 if a window has no reading", () ->
            noReading(WeightedReader::ways, 0));
        DUE.sentence("17 least: NONE if there is no reading", () ->
            noReading(WeightedReader::least, Code.NONE));
        DUE.sentence("18 most: NONE if there is no reading", () ->
            noReading(WeightedReader::most, Code.NONE));
        DUE.sentence("17 and 18: a reading of cost 0 is a reading", () -> {
            WeightedReader x = Given.fullText();
            x.any(0);
            x.loop(0);
            x.define();
            DUE.due("least of all 8", x.least(0, 8), 0);
            DUE.due("most of all 8", x.most(0, 8), 0);
            DUE.due("least of one", x.least(7, 8), 0);
            DUE.due("most of one", x.most(7, 8), 0);
        });
    }

    private static void noReading(Question question, int code) {
        for (int n = 0; n <= 8; n++) {
            WeightedReader x = Given.textOf(n);
            x.any(4);
            x.define();
            for (int i = 0; i <= n; i++) {
                DUE.due("empty window at " + i, question.ask(x, i, i), code);
                for (int j = i + 2; j <= n; j++) {
                    DUE.due("window (" + i + ", " + j + ")", question.ask(x, i, j), code);
                }
            }
        }
    }

    /** 16 loops over 2 leaves read m letters in 2^m * 16^(m - 1) ways, so 8 letters in 2^36. */
    private static WeightedReader wrapping(int n) {
        WeightedReader x = Given.textOf(n);
        Given.useLoopsOverLeaves(x, 2, 16);
        return x;
    }

    private static void wrappedNumbers() {
        DUE.sentence("16 ways: 2^31 readings are answered as -2^31", () ->
            DUE.due("ways", wrapping(7).ways(0, 7), MIN));
        DUE.sentence("16 ways: 2^36 readings are answered as 0", () ->
            DUE.due("ways", wrapping(8).ways(0, 8), 0));
        DUE.sentence("17 least: not NONE where the number of readings wraps to 0", () ->
            DUE.due("least", wrapping(8).least(0, 8), 8));
        DUE.sentence("18 most: not NONE where the number of readings wraps to 0", () ->
            DUE.due("most", wrapping(8).most(0, 8), 8));
        DUE.sentence("19 windows: counts the window whose number of readings wraps to 0", () ->
            DUE.due("windows", wrapping(8).windows(), 45));
        DUE.sentence("20 allWays: adds the numbers modulo 2^32", () -> {
            for (int n = 0; n <= 8; n++) {
                long sum = n + 1;
                for (int m = 1; m <= n; m++) {
                    sum += (long) (n + 1 - m) << (5 * m - 4);
                }
                DUE.due("of " + n + " letters", wrapping(n).allWays(), (int) sum);
            }
        });
        DUE.sentence("21 longest: finds the window whose number of readings wraps to 0", () ->
            DUE.due("longest", wrapping(8).longest(0), 8));
        DUE.sentence("22 cover: uses the window whose number of readings wraps to 0", () -> {
            // Each piece costs 9 more, so that all 8 letters in one piece are the cheapest.
            WeightedReader x = Given.fullText();
            Given.pushLoopsOverLeaves(x, 2, 15);
            x.loop(9);
            x.define();
            DUE.due("ways", x.ways(0, 8), 0);
            DUE.due("cover", x.cover(), 8 + 9);
        });
    }

    // ---- promises 19 and 20

    private static void windowsBoundaries() {
        DUE.sentence("19 windows: empty ones too, 1 of the empty text to 45 of 8 letters", () -> {
            for (int n = 0; n <= 8; n++) {
                DUE.due("of " + n, Given.textOf(n).windows(), (n + 1) * (n + 2) / 2);
            }
        });
        DUE.sentence("19 windows: the empty ones alone", () -> {
            for (int n = 0; n <= 8; n++) {
                DUE.due("of " + n, using(n, WeightedReader::unit).windows(), n + 1);
            }
        });
        DUE.sentence("19 windows: none of the empty ones", () -> {
            for (int n = 0; n <= 8; n++) {
                DUE.due("of " + n, using(n, x -> x.any(0)).windows(), n);
            }
        });
        DUE.sentence("19 windows: 0 if none has a reading", () -> {
            WeightedReader x = new WeightedReader();
            x.letter(2, 0);
            x.define();
            for (int n = 0; n <= 8; n++) {
                DUE.due("of " + n, x.windows(), 0);
                x.type(n % 2);
            }
        });
    }

    private static WeightedReader using(int n, ToIntFunction<WeightedReader> push) {
        WeightedReader x = Given.textOf(n);
        push.applyAsInt(x);
        x.define();
        return x;
    }

    private static void allWaysBoundaries() {
        DUE.sentence("20 allWays: the empty windows alone", () -> {
            for (int n = 0; n <= 8; n++) {
                DUE.due("of " + n, using(n, WeightedReader::unit).allWays(), n + 1);
            }
        });
        DUE.sentence("20 allWays: an empty window counts as often as it has readings", () -> {
            for (int n = 0; n <= 8; n++) {
                WeightedReader x = Given.textOf(n);
                x.unit();
                x.unit();
                x.alt();
                x.define();
                DUE.due("of " + n, x.allWays(), 2 * (n + 1));
            }
        });
        DUE.sentence("20 allWays: 0 if none has a reading", () -> {
            DUE.due("of the empty text", using(0, x -> x.any(0)).allWays(), 0);
            DUE.due("of a 0", using(1, x -> x.letter(1, 0)).allWays(), 0);
        });
        DUE.sentence("20 allWays: the sum wraps where no number does", () -> {
            // 4 units before 5 loops over 3 leaves: 12 * 15^(m - 1) readings of m letters.
            WeightedReader x = Given.fullText();
            for (int n = 0; n < 4; n++) {
                x.unit();
            }
            for (int n = 0; n < 3; n++) {
                x.alt();
            }
            Given.pushLoopsOverLeaves(x, 3, 5);
            x.seq();
            DUE.due("define", x.define(), 0);
            long sum = 9 * 4;
            long number = 12;
            for (int m = 1; m <= 8; m++) {
                DUE.due("ways of " + m, x.ways(0, m), number);
                sum += (9 - m) * number;
                number *= 15;
            }
            DUE.due("the sum is above an int", sum > MAX ? 1 : 0, 1);
            DUE.due("allWays", x.allWays(), (int) sum);
        });
    }

    // ---- promise 21

    private static void longestRange() {
        DUE.sentence("21 longest: BAD_ARG if i is below 0", () -> {
            for (int n = 0; n <= 8; n++) {
                longestRefused(n, -1);
                longestRefused(n, -9);
                longestRefused(n, MIN);
            }
        });
        DUE.sentence("21 longest: BAD_ARG if i is above n", () -> {
            for (int n = 0; n <= 8; n++) {
                longestRefused(n, n + 1);
                longestRefused(n, 9);
                longestRefused(n, MAX);
            }
        });
        DUE.sentence("21 longest: i at the ends of 0 to n", () -> {
            for (int n = 0; n <= 8; n++) {
                for (int i = 0; i <= n; i++) {
                    DUE.due("from " + i + " of " + n, Given.textOf(n).longest(i), n);
                }
            }
        });
        DUE.sentence("21 longest: BAD_ARG, not NONE, above n if nothing is read", () -> {
            WeightedReader x = using(3, y -> y.letter(2, 0));
            DUE.due("from 3", x.longest(3), Code.NONE);
            DUE.due("from 4", x.longest(4), Code.BAD_ARG);
            DUE.due("from -1", x.longest(-1), Code.BAD_ARG);
        });
    }

    private static void longestRefused(int n, int i) {
        String call = "longest(" + i + ") of " + n + " letters";
        Refused.due(DUE, call, () -> Given.textOf(n), x -> x.longest(i), Code.BAD_ARG);
    }

    private static void longestBoundaries() {
        DUE.sentence("21 longest: NONE if no window from i has a reading", () -> {
            Refused.due(DUE, "of the empty text", () -> using(0, x -> x.any(0)),
                x -> x.longest(0), Code.NONE);
            Refused.due(DUE, "from another letter", () -> using(3, x -> x.letter(2, 0)),
                x -> x.longest(0), Code.NONE);
            Refused.due(DUE, "from the end", () -> using(8, x -> x.any(0)),
                x -> x.longest(8), Code.NONE);
        });
        DUE.sentence("21 longest: i itself if the empty window alone has a reading", () -> {
            for (int n = 0; n <= 8; n++) {
                WeightedReader x = using(n, WeightedReader::unit);
                for (int i = 0; i <= n; i++) {
                    DUE.due("from " + i, x.longest(i), i);
                }
            }
        });
        DUE.sentence("21 longest: the greatest j, past a window that has none", () -> {
            // One letter or three, but not two.
            for (int n = 0; n <= 8; n++) {
                WeightedReader x = Given.textOf(n);
                for (int k = 0; k < 4; k++) {
                    x.any(1);
                }
                x.seq();
                x.seq();
                x.alt();
                x.define();
                for (int i = 0; i <= n; i++) {
                    int left = n - i;
                    int due = left >= 3 ? i + 3 : left >= 1 ? i + 1 : Code.NONE;
                    DUE.due("from " + i + " of " + n, x.longest(i), due);
                }
            }
        });
    }

    // ---- promise 22

    private static void coverOfFewLetters() {
        DUE.sentence("22 cover: 0 for the empty text, whatever is in use", () -> {
            DUE.due("unit", new WeightedReader().cover(), 0);
            DUE.due("any", using(0, x -> x.any(9)).cover(), 0);
            DUE.due("loop", Given.textOf(0).cover(), 0);
            WeightedReader x = Given.fullText();
            for (int n = 0; n < 8; n++) {
                x.shift();
            }
            DUE.due("after 8 shifts", x.cover(), 0);
        });
        DUE.sentence("22 cover: a single letter passed over costs 12, up to 8 of them", () -> {
            for (int n = 0; n <= 8; n++) {
                DUE.due("of " + n, using(n, WeightedReader::unit).cover(), 12 * n);
            }
        });
        DUE.sentence("22 cover: a letter read for 11, 12 or 13 against 12", () -> {
            for (int p = 2; p <= 4; p++) {
                for (int n = 0; n <= 8; n++) {
                    WeightedReader x = Given.textOf(n);
                    x.any(9);
                    x.loop(p);
                    x.define();
                    DUE.due("9 + " + p + " for each of " + n, x.cover(), p == 2 ? 11 * n : 12 * n);
                }
            }
        });
        DUE.sentence("22 cover: a letter read for 0 costs 0", () -> {
            for (int n = 0; n <= 8; n++) {
                DUE.due("of " + n, using(n, x -> x.any(0)).cover(), 0);
            }
        });
    }

    private static void coverPieces() {
        DUE.sentence("22 cover: no piece is empty", () -> {
            // The empty word has a reading, and so many pieces of it would cost nothing.
            WeightedReader x = Given.textOf(1);
            x.unit();
            x.any(7);
            x.alt();
            x.define();
            DUE.due("of one letter", x.cover(), 7);
            DUE.due("by unit alone", using(1, WeightedReader::unit).cover(), 12);
        });
        DUE.sentence("22 cover: no more than a single letter is passed over at once", () -> {
            // Two letters are read for nothing: of an odd number one is passed over.
            for (int n = 0; n <= 8; n++) {
                WeightedReader x = Given.textOf(n);
                x.any(0);
                x.any(0);
                x.seq();
                x.define();
                DUE.due("of " + n, x.cover(), 12 * (n % 2));
            }
        });
        DUE.sentence("22 cover: one piece of the whole text of 8", () -> {
            for (int n = 7; n <= 8; n++) {
                WeightedReader x = Given.textOf(n);
                for (int k = 0; k < 8; k++) {
                    x.any(k);
                }
                for (int k = 0; k < 7; k++) {
                    x.seq();
                }
                x.define();
                DUE.due("of " + n, x.cover(), n == 8 ? 28 : 12 * 7);
            }
        });
        DUE.sentence("22 cover: a letter passed over at the start, inside and at the end", () -> {
            int[][] texts = {{1, 0, 0}, {0, 1, 0}, {0, 0, 1}};
            for (int[] letters : texts) {
                WeightedReader x = new WeightedReader();
                x.letter(0, 1);
                x.define();
                Given.text(x, letters);
                DUE.due("cover", x.cover(), 1 + 1 + 12);
            }
        });
        DUE.sentence("22 cover: a piece costs its cheapest reading, also if found last", () -> {
            int[][] costs = {{2, 7}, {7, 2}};
            for (int[] pair : costs) {
                WeightedReader x = Given.fullText();
                x.any(pair[0]);
                x.any(pair[1]);
                x.alt();
                x.define();
                DUE.due("cover", x.cover(), 2 * 8);
            }
        });
    }

    private static void questionsChangeNothing() {
        question("16 ways", x -> x.ways(0, 8), 8);
        question("17 least", x -> x.least(0, 8), 6 * 8 - 2 * 3);
        question("18 most", x -> x.most(0, 8), 6 * 8);
        question("19 windows", WeightedReader::windows, 45);
        question("20 allWays", WeightedReader::allWays, sumOfWays());
        question("21 longest", x -> x.longest(0), 8);
        // Letter 0 costs 4 in a loop, the others 6.
        question("22 cover", WeightedReader::cover, 3 * 4 + 5 * 6);
        question("15 length", WeightedReader::length, 8);
        question("8 steps", WeightedReader::steps, 8);
        question("9 depth", WeightedReader::depth, 8);
    }

    /** Not refused, but like a refused call it leaves no trace. */
    private static void question(String name, ToIntFunction<WeightedReader> ask, int answer) {
        DUE.sentence(name + ": a question changes nothing, at a full text and a full stack", () ->
            Refused.due(DUE, name, QuestionBoundaryTest::fullTextAndStack, ask, answer));
    }

    private static int sumOfWays() {
        int sum = 0;
        for (int i = 0; i <= 8; i++) {
            for (int j = i; j <= 8; j++) {
                sum += 1 << zeros(i, j);
            }
        }
        return sum;
    }

    private static WeightedReader fullTextAndStack() {
        WeightedReader x = Given.fullText();
        for (int n = 0; n < 8; n++) {
            x.letter(n % 3, n);
        }
        return x;
    }
}
