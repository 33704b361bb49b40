import java.util.List;
import java.util.function.Consumer;

/** The head and the Terms: a test of its own for each sentence that names a boundary case. */
public final class TermsBoundaryTest {
    private static final Due DUE = new Due("TermsBoundaryTest");

    private interface Call {
        void make(Both both, int a, int b);
    }

    public static void main(String[] args) {
        leaves();
        unit();
        seqParts();
        seqReadings();
        alt();
        loopOfTheEmptyWord();
        loopPieces();
        numbersThatWrap();
        greatestCosts();
        noCallThrows();
        fiveHundredAndTwelveCalls();
        DUE.finish();
    }

    // ---- expressions and readings

    private static void leaves() {
        DUE.sentence("letter c w: exactly one reading, of cost w, if u is the one letter c", () -> {
            for (int c = 0; c <= 2; c++) {
                int letter = c;
                WeightedReader x = using(x0 -> x0.letter(letter, 6), c);
                reads(x, 0, 1, 1, 6, 6);
            }
        });
        DUE.sentence("letter c w: else none, for the empty word", () ->
            readsNot(using(x -> x.letter(0, 6)), 0, 0));
        DUE.sentence("letter c w: else none, for another letter", () -> {
            for (int c = 0; c <= 2; c++) {
                int letter = c;
                WeightedReader x = using(x0 -> x0.letter(letter, 6), 0, 1, 2);
                readsNot(x, (c + 1) % 3, (c + 1) % 3 + 1);
                readsNot(x, (c + 2) % 3, (c + 2) % 3 + 1);
            }
        });
        DUE.sentence("letter c w: else none, for more letters than one", () -> {
            WeightedReader x = using(x0 -> x0.letter(0, 6), 0, 0, 0, 0, 0, 0, 0, 0);
            for (int j = 2; j <= 8; j++) {
                readsNot(x, 0, j);
            }
        });
        DUE.sentence("any w: one reading, of cost w, if u is exactly one letter", () -> {
            for (int c = 0; c <= 2; c++) {
                reads(using(x -> x.any(6), c), 0, 1, 1, 6, 6);
            }
        });
        DUE.sentence("any w: else none, for the empty word", () ->
            readsNot(using(x -> x.any(6)), 0, 0));
        DUE.sentence("any w: else none, for more letters than one", () -> {
            WeightedReader x = using(x0 -> x0.any(6), 0, 1, 2, 0, 1, 2, 0, 1);
            for (int j = 2; j <= 8; j++) {
                readsNot(x, 0, j);
            }
        });
    }

    private static void unit() {
        DUE.sentence("unit: exactly one reading, of cost 0, if u is empty", () ->
            reads(using(WeightedReader::unit), 0, 0, 1, 0, 0));
        DUE.sentence("unit: else none", () -> {
            WeightedReader x = using(WeightedReader::unit, 0, 1, 2, 0, 1, 2, 0, 1);
            for (int j = 1; j <= 8; j++) {
                readsNot(x, 0, j);
            }
        });
    }

    private static void seqParts() {
        DUE.sentence("seq: the first part may be empty", () -> {
            WeightedReader x = using(x0 -> {
                x0.unit();
                x0.any(4);
                x0.seq();
            }, 1, 2);
            reads(x, 0, 1, 1, 4, 4);
            readsNot(x, 0, 0);
            readsNot(x, 0, 2);
        });
        DUE.sentence("seq: the rest may be empty", () -> {
            WeightedReader x = using(x0 -> {
                x0.any(4);
                x0.unit();
                x0.seq();
            }, 1, 2);
            reads(x, 0, 1, 1, 4, 4);
            readsNot(x, 0, 0);
            readsNot(x, 0, 2);
        });
        DUE.sentence("seq: both parts may be empty", () -> {
            WeightedReader x = using(x0 -> {
                pushUnits(x0, 2);
                pushUnits(x0, 3);
                x0.seq();
            }, 1);
            reads(x, 0, 0, 2 * 3, 0, 0);
            reads(x, 1, 1, 2 * 3, 0, 0);
            readsNot(x, 0, 1);
        });
        DUE.sentence("seq: neither part need be empty, at each cut of 8 letters", () -> {
            for (int first = 0; first <= 8; first++) {
                int cut = first;
                WeightedReader x = using(x0 -> {
                    pushRow(x0, cut, 1);
                    pushRow(x0, 8 - cut, 1);
                    x0.seq();
                }, 0, 1, 2, 0, 1, 2, 0, 1);
                reads(x, 0, 8, 1, 8, 8);
                DUE.due("windows", x.windows(), 1);
            }
        });
        DUE.sentence("seq: no reading if a part has none", () -> {
            WeightedReader x = using(x0 -> {
                x0.letter(2, 1);
                x0.any(1);
                x0.loop(1);
                x0.seq();
            }, 0, 1, 1);
            DUE.due("windows, no first part", x.windows(), 0);
            WeightedReader y = using(y0 -> {
                y0.any(1);
                y0.loop(1);
                y0.letter(2, 1);
                y0.seq();
            }, 0, 1, 1);
            DUE.due("windows, no rest", y.windows(), 0);
        });
    }

    private static void seqReadings() {
        DUE.sentence("seq: other cuts are other readings, the two with an empty part too", () -> {
            WeightedReader x = using(x0 -> {
                x0.any(0);
                x0.loop(0);
                x0.any(9);
                x0.loop(0);
                x0.seq();
            }, 0, 1, 2, 0, 1, 2, 0, 1);
            for (int n = 0; n <= 8; n++) {
                reads(x, 0, n, n + 1, 0, 9 * n);
            }
        });
        DUE.sentence("seq: other readings of the parts are other readings", () -> {
            WeightedReader x = using(x0 -> {
                pushUnits(x0, 2);
                x0.any(1);
                x0.any(1);
                x0.any(1);
                x0.alt();
                x0.alt();
                x0.seq();
            }, 0);
            reads(x, 0, 1, 2 * 3, 1, 1);
        });
        DUE.sentence("seq: its cost is the sum of the two, at the ends 0 and 9", () -> {
            for (int w : new int[] {0, 9}) {
                WeightedReader x = using(x0 -> {
                    x0.any(w);
                    x0.any(w);
                    x0.seq();
                }, 0, 1);
                reads(x, 0, 2, 1, 2 * w, 2 * w);
            }
        });
    }

    private static void alt() {
        DUE.sentence("alt: counted apart also where X and Y are the same, unit", () ->
            reads(using(x -> pushUnits(x, 2)), 0, 0, 2, 0, 0));
        DUE.sentence("alt: counted apart also where X and Y are the same, letter", () -> {
            WeightedReader x = using(x0 -> {
                x0.letter(0, 3);
                x0.letter(0, 3);
                x0.alt();
            }, 0);
            reads(x, 0, 1, 2, 3, 3);
        });
        DUE.sentence("alt: counted apart also where X and Y are the same, loop", () -> {
            WeightedReader x = using(x0 -> {
                x0.any(1);
                x0.loop(1);
                x0.any(1);
                x0.loop(1);
                x0.alt();
            }, 0, 1);
            reads(x, 0, 0, 2, 0, 0);
            reads(x, 0, 2, 2, 4, 4);
        });
        DUE.sentence("alt: the readings of the one if the other has none", () -> {
            WeightedReader x = using(x0 -> {
                x0.letter(0, 3);
                x0.letter(1, 5);
                x0.alt();
            }, 0, 1, 2);
            reads(x, 0, 1, 1, 3, 3);
            reads(x, 1, 2, 1, 5, 5);
        });
        DUE.sentence("alt: none if neither has one", () -> {
            WeightedReader x = using(x0 -> {
                x0.letter(0, 3);
                x0.letter(1, 5);
                x0.alt();
            }, 2);
            readsNot(x, 0, 1);
            readsNot(x, 0, 0);
        });
        DUE.sentence("alt: the greatest difference of costs, 0 and 9, in either order", () -> {
            for (int w : new int[] {0, 9}) {
                WeightedReader x = using(x0 -> {
                    x0.any(w);
                    x0.any(9 - w);
                    x0.alt();
                }, 0);
                reads(x, 0, 1, 2, 0, 9);
            }
        });
        DUE.sentence("alt: the least and the greatest cost of three, wherever they stand", () -> {
            int[][] orders = {{0, 5, 9}, {0, 9, 5}, {5, 0, 9}, {5, 9, 0}, {9, 0, 5}, {9, 5, 0}};
            for (int[] costs : orders) {
                WeightedReader x = using(x0 -> {
                    x0.any(costs[0]);
                    x0.any(costs[1]);
                    x0.alt();
                    x0.any(costs[2]);
                    x0.alt();
                }, 0);
                reads(x, 0, 1, 3, 0, 9);
                WeightedReader y = using(y0 -> {
                    y0.any(costs[0]);
                    y0.any(costs[1]);
                    y0.any(costs[2]);
                    y0.alt();
                    y0.alt();
                }, 0);
                reads(y, 0, 1, 3, 0, 9);
            }
        });
    }

    private static void loopOfTheEmptyWord() {
        DUE.sentence("loop: one reading of the empty word where X has none", () ->
            reads(looped(x -> x.any(9)), 0, 0, 1, 0, 0));
        DUE.sentence("loop: one reading of the empty word where X has many", () ->
            reads(looped(x -> pushUnits(x, 5)), 0, 0, 1, 0, 0));
        DUE.sentence("loop: one reading of the empty word where X is a loop", () ->
            reads(looped(x -> Given.pushLoopsOverLeaves(x, 1, 3)), 0, 0, 1, 0, 0));
        DUE.sentence("So loop p (unit) reads the empty word only, in one way", () -> {
            for (int p = 0; p <= 9; p++) {
                int cost = p;
                WeightedReader x = using(x0 -> {
                    x0.unit();
                    x0.loop(cost);
                }, 0, 1, 2, 0, 1, 2, 0, 1);
                for (int i = 0; i <= 8; i++) {
                    reads(x, i, i, 1, 0, 0);
                }
                DUE.due("windows", x.windows(), 9);
                DUE.due("allWays", x.allWays(), 9);
                readsNot(x, 0, 1);
                readsNot(x, 0, 8);
            }
        });
        DUE.sentence("readings of the empty word always cost 0", () -> {
            // (loop 9 (any 9 | unit) then loop 9 unit) | unit, which reads it in 2 ways.
            WeightedReader x = using(x0 -> {
                x0.any(9);
                x0.unit();
                x0.alt();
                x0.loop(9);
                x0.unit();
                x0.loop(9);
                x0.seq();
                x0.unit();
                x0.alt();
            }, 0, 1, 2, 0, 1, 2, 0, 1);
            for (int i = 0; i <= 8; i++) {
                reads(x, i, i, 2, 0, 0);
            }
        });
    }

    private static void loopPieces() {
        DUE.sentence("loop: none of the pieces empty", () -> {
            // With empty pieces there would be no end to the readings and their costs.
            WeightedReader x = looped(x0 -> {
                pushUnits(x0, 3);
                x0.any(2);
                x0.alt();
            }, 0, 1, 2, 0, 1, 2, 0, 1);
            for (int n = 1; n <= 8; n++) {
                reads(x, 0, n, 1, 11 * n, 11 * n);
            }
        });
        DUE.sentence("loop: a cut into one piece", () -> {
            WeightedReader x = looped(x0 -> pushRow(x0, 8, 1), 0, 1, 2, 0, 1, 2, 0, 1);
            reads(x, 0, 8, 1, 8 + 9, 8 + 9);
            for (int n = 1; n <= 7; n++) {
                readsNot(x, 0, n);
            }
        });
        DUE.sentence("loop: a cut into 8 pieces, p for every piece", () -> {
            WeightedReader x = looped(x0 -> x0.any(1), 0, 1, 2, 0, 1, 2, 0, 1);
            for (int n = 1; n <= 8; n++) {
                reads(x, 0, n, 1, 10 * n, 10 * n);
            }
        });
        DUE.sentence("loop: every cut into one or more pieces", () -> {
            // The inner loop reads every word in one way: 2^(n - 1) cuts by the outer one.
            WeightedReader x = looped(x0 -> {
                x0.any(1);
                x0.loop(0);
            }, 0, 1, 2, 0, 1, 2, 0, 1);
            for (int n = 1; n <= 8; n++) {
                reads(x, 0, n, 1 << (n - 1), n + 9, n + 9 * n);
            }
        });
        DUE.sentence("loop: p of 0 adds nothing", () -> {
            WeightedReader x = using(x0 -> {
                x0.any(1);
                x0.loop(0);
            }, 0, 1, 2, 0, 1, 2, 0, 1);
            reads(x, 0, 8, 1, 8, 8);
        });
        DUE.sentence("loop: no reading if the first or the last piece has none", () -> {
            WeightedReader x = looped(x0 -> x0.letter(0, 1), 1, 0, 0, 2);
            reads(x, 1, 3, 1, 20, 20);
            readsNot(x, 0, 3);
            readsNot(x, 1, 4);
            readsNot(x, 0, 4);
        });
    }

    // ---- numbers

    private static void numbersThatWrap() {
        DUE.sentence("numbers: the greatest power of 2 below the wrap, and 2^31 itself", () -> {
            // 4 loops over 4 leaves read m letters in 4^m * 4^(m - 1) ways: 2^30 for 8.
            WeightedReader x = using(x0 -> Given.pushLoopsOverLeaves(x0, 4, 4),
                0, 0, 0, 0, 0, 0, 0, 0);
            reads(x, 0, 8, 1 << 30, 8, 8);
            WeightedReader y = using(y0 -> {
                Given.pushLoopsOverLeaves(y0, 4, 4);
                pushUnits(y0, 2);
                y0.seq();
            }, 0, 0, 0, 0, 0, 0, 0, 0);
            reads(y, 0, 8, Integer.MIN_VALUE, 8, 8);
            reads(y, 0, 7, 1 << 27, 7, 7);
        });
        DUE.sentence("numbers: a product wraps to 0", () -> {
            WeightedReader x = using(x0 -> {
                Given.pushLoopsOverLeaves(x0, 4, 4);
                pushUnits(x0, 4);
                x0.seq();
            }, 0, 0, 0, 0, 0, 0, 0, 0);
            reads(x, 0, 8, 0, 8, 8);
            reads(x, 0, 7, 1 << 28, 7, 7);
        });
        DUE.sentence("numbers: a product wraps below 0, past 0, and below 0 again", () -> {
            // 6 loops over 3 leaves read 8 letters in 3^8 * 6^7 ways, which an int just holds.
            long number = 6561L * 279936L;
            for (int times = 1; times <= 4; times++) {
                int units = times;
                WeightedReader x = using(x0 -> {
                    pushUnits(x0, units);
                    Given.pushLoopsOverLeaves(x0, 3, 6);
                    x0.seq();
                }, 0, 0, 0, 0, 0, 0, 0, 0);
                reads(x, 0, 8, (int) (times * number), 8, 8);
            }
        });
        DUE.sentence("numbers: a loop's sum wraps below 0 and to 0", () -> {
            WeightedReader x = using(x0 -> Given.pushLoopsOverLeaves(x0, 2, 16),
                0, 0, 0, 0, 0, 0, 0, 0);
            for (int m = 1; m <= 8; m++) {
                reads(x, 0, m, (int) (1L << (5 * m - 4)), m, m);
            }
        });
        DUE.sentence("numbers: 0 modulo 2^32 and more readings by the other side of alt", () -> {
            // 8 loops over 4 leaves: 2^32 for 7 letters, 2^37 for 8; two loops: 2^(m - 1).
            WeightedReader x = using(x0 -> {
                Given.pushLoopsOverLeaves(x0, 4, 8);
                x0.any(3);
                x0.loop(0);
                x0.loop(1);
                x0.alt();
            }, 0, 0, 0, 0, 0, 0, 0, 0);
            reads(x, 0, 7, 1 << 6, 7, 21 + 7);
            reads(x, 0, 8, 1 << 7, 8, 24 + 8);
            reads(x, 0, 0, 2, 0, 0);
        });
        DUE.sentence("numbers: 0 modulo 2^32 in the first part of seq is still a reading", () -> {
            WeightedReader x = using(x0 -> {
                Given.pushLoopsOverLeaves(x0, 4, 8);
                x0.any(9);
                x0.seq();
            }, 0, 0, 0, 0, 0, 0, 0, 0);
            reads(x, 0, 8, 0, 7 + 9, 7 + 9);
            reads(x, 0, 7, 1 << 27, 6 + 9, 6 + 9);
        });
        DUE.sentence("numbers: 0 modulo 2^32 in the rest of seq is still a reading", () -> {
            WeightedReader x = using(x0 -> {
                x0.any(9);
                Given.pushLoopsOverLeaves(x0, 4, 8);
                x0.seq();
            }, 0, 0, 0, 0, 0, 0, 0, 0);
            reads(x, 0, 8, 0, 7 + 9, 7 + 9);
            reads(x, 0, 7, 1 << 27, 6 + 9, 6 + 9);
        });
        DUE.sentence("numbers: 0 modulo 2^32 in a piece of loop is still a reading", () -> {
            // 9 loops over 4 leaves: 4^8 * 9^7 ways, the cheapest of them with one outer piece.
            WeightedReader x = looped(x0 -> Given.pushLoopsOverLeaves(x0, 4, 8),
                0, 0, 0, 0, 0, 0, 0, 0);
            reads(x, 0, 8, (int) (65536L * 4782969L), 8 + 9, 8 + 9 * 8);
        });
        DUE.sentence("numbers: 0 modulo 2^32 behind the first piece of loop is a reading", () -> {
            // 8 loops: 7 letters have 2^32 readings, and the dearest of 8 leaves 7 to the rest.
            WeightedReader x = looped(x0 -> Given.pushLoopsOverLeaves(x0, 4, 7),
                0, 0, 0, 0, 0, 0, 0, 0);
            reads(x, 0, 7, 0, 7 + 9, 7 + 9 * 7);
            reads(x, 0, 8, 0, 8 + 9, 8 + 9 * 8);
        });
    }

    private static void greatestCosts() {
        DUE.sentence("numbers: costs never reach 10000, the greatest that can be built", () -> {
            WeightedReader x = using(x0 -> {
                x0.any(9);
                for (int n = 0; n < 19; n++) {
                    x0.loop(9);
                }
            }, 0, 1, 2, 0, 1, 2, 0, 1);
            // 19 nested cuts; all 19 into 8 pieces is the dearest, and the outer 18 into one
            // piece is the cheapest.
            reads(x, 0, 8, 19 * 19 * 19 * 19 * 19 * 19 * 19, 72 + 72 + 18 * 9, 72 + 19 * 72);
            DUE.due("cover", x.cover(), 8 * 12);
        });
        DUE.sentence("numbers: the least cost of a reading is 0, for 8 letters too", () -> {
            WeightedReader x = using(x0 -> {
                x0.any(0);
                x0.loop(0);
            }, 0, 1, 2, 0, 1, 2, 0, 1);
            reads(x, 0, 8, 1, 0, 0);
            DUE.due("cover", x.cover(), 0);
        });
    }

    // ---- no call ever throws

    private static void noCallThrows() {
        List<Consumer<Both>> states = List.of(
            b -> { },
            TermsBoundaryTest::fillTheText,
            b -> pushOn(b, 8, 8),
            b -> pushOn(b, 20, 1),
            b -> pushOn(b, 20, 8),
            TermsBoundaryTest::emptyTheTextAgain,
            TermsBoundaryTest::fillEverything);
        List<Call> calls = List.of(
            (b, i, j) -> b.letter(i, j), (b, i, j) -> b.any(i), (b, i, j) -> b.unit(),
            (b, i, j) -> b.seq(), (b, i, j) -> b.alt(), (b, i, j) -> b.loop(i),
            (b, i, j) -> b.steps(), (b, i, j) -> b.depth(), (b, i, j) -> b.discard(),
            (b, i, j) -> b.define(), (b, i, j) -> b.type(i), (b, i, j) -> b.put(i, j),
            (b, i, j) -> b.shift(), (b, i, j) -> b.length(), (b, i, j) -> b.ways(i, j),
            (b, i, j) -> b.least(i, j), (b, i, j) -> b.most(i, j), (b, i, j) -> b.windows(),
            (b, i, j) -> b.allWays(), (b, i, j) -> b.longest(i), (b, i, j) -> b.cover());
        int[] edges = {Integer.MIN_VALUE, Integer.MIN_VALUE + 1, -9, -4, -3, -2, -1, 0, 1, 2, 3, 7,
            8, 9, 10, 11, 20, Integer.MAX_VALUE - 1, Integer.MAX_VALUE};
        DUE.sentence("No call ever throws, whatever its arguments, in any state", () -> {
            for (int s = 0; s < states.size(); s++) {
                for (Call call : calls) {
                    Both both = new Both(DUE, "state " + s);
                    states.get(s).accept(both);
                    for (int a : edges) {
                        for (int b : edges) {
                            call.make(both, a, b);
                        }
                    }
                    both.steps();
                    both.depth();
                    both.length();
                    both.allWays();
                    DUE.due("within 512 calls", both.calls() <= 512 ? 1 : 0, 1);
                }
            }
        });
    }

    private static void fillTheText(Both both) {
        both.letter(0, 3);
        both.any(5);
        both.alt();
        both.loop(1);
        both.define();
        for (int n = 0; n < 8; n++) {
            both.type(n % 3);
        }
    }

    private static void emptyTheTextAgain(Both both) {
        fillTheText(both);
        for (int n = 0; n < 8; n++) {
            both.shift();
        }
    }

    private static void pushOn(Both both, int steps, int depth) {
        for (int n = 0; n < depth; n++) {
            both.letter(n % 3, n);
        }
        for (int n = depth; n < steps; n++) {
            both.loop(n % 10);
        }
    }

    private static void fillEverything(Both both) {
        fillTheText(both);
        pushOn(both, 20, 8);
    }

    // ---- 512 calls

    private static void fiveHundredAndTwelveCalls() {
        DUE.sentence("An object is used for at most 512 calls: type and shift", () -> {
            Both both = new Both(DUE, "type and shift");
            for (int n = 0; n < 7; n++) {
                both.type(n % 2);
            }
            for (int n = 0; both.calls() < 510; n++) {
                both.type(n % 3);
                both.shift();
            }
            bothEndAt512(both);
        });
        DUE.sentence("An object is used for at most 512 calls: build and define", () -> {
            Both both = new Both(DUE, "build and define");
            for (int n = 0; n < 3; n++) {
                both.type(n);
            }
            for (int n = 0; both.calls() + 20 <= 510; n++) {
                pushOn(both, 13, 1);
                both.define();
                both.least(0, 1);
                both.cover();
            }
            bothEndAt512(both);
        });
        DUE.sentence("An object is used for at most 512 calls: refused calls", () -> {
            Both both = new Both(DUE, "refused calls");
            fillEverything(both);
            while (both.calls() + 8 <= 510) {
                both.letter(0, 0);
                both.any(0);
                both.unit();
                both.seq();
                both.loop(0);
                both.define();
                both.type(0);
                both.put(8, 0);
            }
            bothEndAt512(both);
        });
    }

    private static void bothEndAt512(Both both) {
        while (both.calls() < 511) {
            both.windows();
        }
        both.allWays();
        DUE.due("calls", both.calls(), 512);
    }

    // ---- what the tests above are written with

    private static WeightedReader using(Consumer<WeightedReader> push, int... letters) {
        WeightedReader x = new WeightedReader();
        push.accept(x);
        DUE.due("define", x.define(), 0);
        Given.text(x, letters);
        return x;
    }

    private static WeightedReader looped(Consumer<WeightedReader> push, int... letters) {
        return using(push.andThen(x -> x.loop(9)), letters);
    }

    /** unit, alt unit: as many readings of the empty word as there are units. */
    private static void pushUnits(WeightedReader x, int number) {
        for (int n = 0; n < number; n++) {
            x.unit();
            if (n > 0) {
                x.alt();
            }
        }
    }

    /** any w, seq any w: reads the words of so many letters, in one way; unit for none. */
    private static void pushRow(WeightedReader x, int letters, int w) {
        if (letters == 0) {
            x.unit();
        }
        for (int n = 0; n < letters; n++) {
            x.any(w);
            if (n > 0) {
                x.seq();
            }
        }
    }

    private static void reads(WeightedReader x, int i, int j, int ways, int least, int most) {
        String at = "(" + i + ", " + j + ")";
        DUE.due("ways" + at, x.ways(i, j), ways);
        DUE.due("least" + at, x.least(i, j), least);
        DUE.due("most" + at, x.most(i, j), most);
    }

    private static void readsNot(WeightedReader x, int i, int j) {
        reads(x, i, j, 0, Code.NONE, Code.NONE);
    }
}
