import java.util.function.Supplier;
import java.util.function.ToIntFunction;

/** Promises 12 to 15: a test of its own for each sentence that names a boundary case. */
public final class TextBoundaryTest {
    private static final Due DUE = new Due("TextBoundaryTest");

    public static void main(String[] args) {
        typeBoundaries();
        putPlaces();
        putLetters();
        shiftBoundaries();
        lengthRange();
        DUE.finish();
    }

    // ---- promise 12

    private static void typeBoundaries() {
        DUE.sentence("12 type: c not 0 to 2 answers BAD_ARG", () -> {
            for (int c : Given.NOT_LETTERS) {
                refused("type(" + c + ")", () -> Given.textOf(0), x -> x.type(c), Code.BAD_ARG);
                refused("type(" + c + ")", () -> Given.textOf(7), x -> x.type(c), Code.BAD_ARG);
            }
        });
        DUE.sentence("12 type: c at the ends of 0 to 2 is accepted", () -> {
            for (int c = 0; c <= 2; c++) {
                WeightedReader x = new WeightedReader();
                DUE.due("type(" + c + ")", x.type(c), 1);
                DUE.due("the letter", x.put(0, 0), c);
            }
        });
        DUE.sentence("12 type: n is 8 answers FULL", () -> {
            for (int c = 0; c <= 2; c++) {
                int letter = c;
                refused("type(" + c + ")", Given::fullText, x -> x.type(letter), Code.FULL);
            }
        });
        DUE.sentence("12 type: c is tested before n is 8", () -> {
            for (int c : Given.NOT_LETTERS) {
                refused("type(" + c + ")", Given::fullText, x -> x.type(c), Code.BAD_ARG);
            }
        });
        DUE.sentence("12 type: answers the new n, 1 to 8", () -> {
            WeightedReader x = new WeightedReader();
            for (int n = 1; n <= 8; n++) {
                DUE.due("type", x.type(n % 3), n);
                DUE.due("length", x.length(), n);
                DUE.due("the letter is the last", x.put(n - 1, n % 3), n % 3);
            }
        });
        DUE.sentence("12 type: n is 7 again after shift, and a letter is accepted", () -> {
            WeightedReader x = Given.fullText();
            for (int n = 0; n < 20; n++) {
                DUE.due("full", x.type(0), Code.FULL);
                x.shift();
                DUE.due("room for one", x.type(n % 2 + 1), 8);
                DUE.due("it is the last", x.put(7, n % 2 + 1), n % 2 + 1);
            }
        });
        DUE.sentence("12 type: the text is empty again after as many shifts", () -> {
            WeightedReader x = Given.textOf(1);
            x.shift();
            DUE.due("type", x.type(2), 1);
            DUE.due("the letter", x.shift(), 2);
        });
    }

    // ---- promise 13

    private static void putPlaces() {
        DUE.sentence("13 put: BAD_ARG if i is below 0", () -> {
            for (int n = 0; n <= 8; n++) {
                for (int i : new int[] {-1, -2, -8, Integer.MIN_VALUE}) {
                    putRefused(n, i, 0);
                }
            }
        });
        DUE.sentence("13 put: BAD_ARG if i is above n - 1", () -> {
            for (int n = 0; n <= 8; n++) {
                for (int i : new int[] {n, n + 1, 8, 9, Integer.MAX_VALUE}) {
                    putRefused(n, i, 2);
                }
            }
        });
        DUE.sentence("13 put: BAD_ARG for every i if the text is empty", () -> {
            for (int i = -1; i <= 9; i++) {
                putRefused(0, i, 1);
            }
        });
        DUE.sentence("13 put: BAD_ARG for a place that shift has taken away", () -> {
            Supplier<WeightedReader> given = () -> {
                WeightedReader x = Given.fullText();
                x.shift();
                return x;
            };
            refused("put(7, 1)", given, x -> x.put(7, 1), Code.BAD_ARG);
        });
        DUE.sentence("13 put: i at the ends of 0 to n - 1 is accepted", () -> {
            for (int n = 1; n <= 8; n++) {
                onePlaceIsPut(n, 0);
                onePlaceIsPut(n, n - 1);
            }
        });
        DUE.sentence("13 put: the windows at the ends show the letter as it is now", () -> {
            WeightedReader x = new WeightedReader();
            x.letter(2, 4);
            x.define();
            Given.text(x, 0, 0, 0, 0, 0, 0, 0, 0);
            for (int place : new int[] {0, 7}) {
                DUE.due("before", x.least(place, place + 1), Code.NONE);
                x.put(place, 2);
                DUE.due("put", x.least(place, place + 1), 4);
                DUE.due("windows", x.windows(), 1);
                x.put(place, 1);
                DUE.due("put back", x.least(place, place + 1), Code.NONE);
            }
        });
    }

    private static void putRefused(int n, int i, int c) {
        String call = "put(" + i + ", " + c + ") of " + n + " letters";
        refused(call, () -> Given.textOf(n), x -> x.put(i, c), Code.BAD_ARG);
    }

    private static void onePlaceIsPut(int n, int place) {
        for (int c = 0; c <= 2; c++) {
            WeightedReader x = Given.textOf(n);
            DUE.due("the letter before", x.put(place, c), place % 3);
            DUE.due("length", x.length(), n);
            for (int i = 0; i < n; i++) {
                DUE.due("letter at " + i, x.shift(), i == place ? c : i % 3);
            }
        }
    }

    private static void putLetters() {
        DUE.sentence("13 put: BAD_ARG if c is not 0 to 2", () -> {
            for (int c : Given.NOT_LETTERS) {
                putRefused(1, 0, c);
                putRefused(8, 0, c);
                putRefused(8, 7, c);
            }
        });
        DUE.sentence("13 put: BAD_ARG if neither i nor c is in its range", () -> {
            putRefused(0, 0, 3);
            putRefused(3, 3, -1);
            putRefused(8, -1, 3);
            putRefused(8, 8, Integer.MAX_VALUE);
        });
        DUE.sentence("13 put: c at the ends of 0 to 2 is accepted, also the letter itself", () -> {
            for (int before = 0; before <= 2; before++) {
                for (int c = 0; c <= 2; c++) {
                    WeightedReader x = new WeightedReader();
                    x.type(before);
                    DUE.due("the letter before", x.put(0, c), before);
                    DUE.due("the letter now", x.put(0, 1), c);
                }
            }
        });
    }

    // ---- promise 14

    private static void shiftBoundaries() {
        DUE.sentence("14 shift: NONE if the text is empty", () -> {
            refused("of a new object", WeightedReader::new, WeightedReader::shift, Code.NONE);
            refused("of no letter", () -> Given.textOf(0), WeightedReader::shift, Code.NONE);
        });
        DUE.sentence("14 shift: NONE once every letter is taken off", () -> {
            for (int n = 1; n <= 8; n++) {
                int letters = n;
                refused("after " + n, () -> shifted(letters), WeightedReader::shift, Code.NONE);
            }
        });
        DUE.sentence("14 shift: takes off and answers the only letter", () -> {
            for (int c = 0; c <= 2; c++) {
                WeightedReader x = new WeightedReader();
                x.type(c);
                DUE.due("shift", x.shift(), c);
                DUE.due("length", x.length(), 0);
            }
        });
        DUE.sentence("14 shift: takes off and answers the first of 8, down to none", () -> {
            WeightedReader x = Given.fullText();
            for (int n = 0; n < 8; n++) {
                DUE.due("shift", x.shift(), n % 3);
                DUE.due("length", x.length(), 7 - n);
            }
            DUE.due("of none", x.shift(), Code.NONE);
        });
        DUE.sentence("14 shift: the windows move with the letters", () -> {
            WeightedReader x = new WeightedReader();
            x.letter(2, 4);
            x.define();
            Given.text(x, 0, 0, 0, 0, 0, 0, 0, 2);
            for (int place = 7; place >= 0; place--) {
                DUE.due("least", x.least(place, place + 1), 4);
                DUE.due("longest", x.longest(place), place + 1);
                DUE.due("windows", x.windows(), 1);
                x.shift();
                DUE.due("gone from there", x.least(place, place + 1), Code.BAD_ARG);
            }
        });
    }

    private static WeightedReader shifted(int n) {
        WeightedReader x = Given.textOf(n);
        for (int i = 0; i < n; i++) {
            x.shift();
        }
        return x;
    }

    // ---- promise 15

    private static void lengthRange() {
        DUE.sentence("15 length: n, 0 to 8", () -> {
            for (int n = 0; n <= 8; n++) {
                DUE.due("length", Given.textOf(n).length(), n);
            }
        });
        DUE.sentence("15 length: 8 after a refused type", () -> {
            WeightedReader x = Given.fullText();
            x.type(1);
            DUE.due("length", x.length(), 8);
        });
        DUE.sentence("15 length: 0 after a refused shift", () -> {
            WeightedReader x = Given.textOf(0);
            x.shift();
            DUE.due("length", x.length(), 0);
        });
    }

    private static void refused(String call, Supplier<WeightedReader> given,
            ToIntFunction<WeightedReader> refused, int code) {
        Refused.due(DUE, call, given, refused, code);
    }
}
