import java.util.function.Supplier;
import java.util.function.ToIntFunction;

/** Promises 1 to 11: a test of its own for each sentence that names a boundary case. */
public final class BuildingBoundaryTest {
    private static final Due DUE = new Due("BuildingBoundaryTest");

    public static void main(String[] args) {
        newObject();
        letterArguments();
        letterOrder();
        anyArguments();
        anyOrder();
        leafLimits("2 letter", x -> x.letter(1, 4));
        leafLimits("3 any", x -> x.any(4));
        leavesSinceTheStackWasEmptied("2 letter", x -> x.letter(1, 4));
        leavesSinceTheStackWasEmptied("3 any", x -> x.any(4));
        unitLimits();
        joinLimits("5 seq", WeightedReader::seq);
        joinLimits("6 alt", WeightedReader::alt);
        loopArguments();
        loopLimits();
        stepsRange();
        depthRange();
        discardBoundaries();
        defineBoundaries();
        DUE.finish();
    }

    // ---- promise 1

    private static void newObject() {
        DUE.sentence("1 The text is empty", () -> {
            DUE.due("length", new WeightedReader().length(), 0);
            DUE.due("shift", new WeightedReader().shift(), Code.NONE);
            DUE.due("put", new WeightedReader().put(0, 0), Code.BAD_ARG);
            DUE.due("least of a letter", new WeightedReader().least(0, 1), Code.BAD_ARG);
            DUE.due("longest from 1", new WeightedReader().longest(1), Code.BAD_ARG);
        });
        DUE.sentence("1 the stack is empty", () -> {
            DUE.due("depth", new WeightedReader().depth(), 0);
            DUE.due("steps", new WeightedReader().steps(), 0);
            refused("seq", WeightedReader::new, WeightedReader::seq, Code.BAD_STACK);
            refused("alt", WeightedReader::new, WeightedReader::alt, Code.BAD_STACK);
            refused("loop", WeightedReader::new, x -> x.loop(0), Code.BAD_STACK);
            refused("define", WeightedReader::new, WeightedReader::define, Code.BAD_STACK);
        });
        DUE.sentence("1 the expression in use is unit", () -> {
            WeightedReader x = new WeightedReader();
            readsNothingButTheEmptyWord(x, 0);
            Given.text(x, 0, 1, 2);
            readsNothingButTheEmptyWord(x, 3);
        });
    }

    private static void readsNothingButTheEmptyWord(WeightedReader x, int n) {
        for (int i = 0; i <= n; i++) {
            for (int j = i; j <= n; j++) {
                DUE.due("ways", x.ways(i, j), i == j ? 1 : 0);
                DUE.due("least", x.least(i, j), i == j ? 0 : Code.NONE);
                DUE.due("most", x.most(i, j), i == j ? 0 : Code.NONE);
            }
        }
    }

    // ---- promises 2 and 3

    private static void letterArguments() {
        DUE.sentence("2 letter: c not 0 to 2 answers BAD_ARG", () -> {
            for (int c : Given.NOT_LETTERS) {
                refused("letter(" + c + ", 4)", Given::emptyStack, x -> x.letter(c, 4),
                    Code.BAD_ARG);
            }
        });
        DUE.sentence("2 letter: c at the ends of 0 to 2 is accepted", () -> {
            for (int c = 0; c <= 2; c++) {
                WeightedReader x = Given.emptyStack();
                DUE.due("letter " + c, x.letter(c, 4), 1);
                x.define();
                for (int i = 0; i < 3; i++) {
                    DUE.due("ways of letter " + i, x.ways(i, i + 1), i == c ? 1 : 0);
                }
            }
        });
        DUE.sentence("2 letter: w not 0 to 9 answers BAD_ARG", () -> {
            for (int w : Given.NOT_COSTS) {
                refused("letter(1, " + w + ")", Given::emptyStack, x -> x.letter(1, w),
                    Code.BAD_ARG);
            }
        });
        DUE.sentence("2 letter: w at the ends of 0 to 9 is accepted", () -> {
            for (int w : new int[] {0, 1, 8, 9}) {
                WeightedReader x = Given.emptyStack();
                DUE.due("letter", x.letter(1, w), 1);
                x.define();
                DUE.due("least", x.least(1, 2), w);
                DUE.due("most", x.most(1, 2), w);
            }
        });
        DUE.sentence("2 letter: both out of range is BAD_ARG", () -> {
            refused("letter(-1, -1)", Given::emptyStack, x -> x.letter(-1, -1), Code.BAD_ARG);
            refused("letter(3, 10)", Given::emptyStack, x -> x.letter(3, 10), Code.BAD_ARG);
        });
    }

    private static void letterOrder() {
        DUE.sentence("2 letter: c and w are tested before steps() is 20", () ->
            badLetterAndCost(Given::allSteps));
        DUE.sentence("2 letter: c and w are tested before the stack holds 8", () ->
            badLetterAndCost(Given::fullStack));
        DUE.sentence("2 letter: c and w are tested before 10 calls were accepted", () ->
            badLetterAndCost(Given::tenLeaves));
    }

    private static void badLetterAndCost(Supplier<WeightedReader> given) {
        refused("letter(-1, 0)", given, x -> x.letter(-1, 0), Code.BAD_ARG);
        refused("letter(3, 0)", given, x -> x.letter(3, 0), Code.BAD_ARG);
        refused("letter(0, -1)", given, x -> x.letter(0, -1), Code.BAD_ARG);
        refused("letter(0, 10)", given, x -> x.letter(0, 10), Code.BAD_ARG);
        refused("letter(0, 0)", given, x -> x.letter(0, 0), Code.FULL);
        refused("letter(2, 9)", given, x -> x.letter(2, 9), Code.FULL);
    }

    private static void anyArguments() {
        DUE.sentence("3 any: w not 0 to 9 answers BAD_ARG", () -> {
            for (int w : Given.NOT_COSTS) {
                refused("any(" + w + ")", Given::emptyStack, x -> x.any(w), Code.BAD_ARG);
            }
        });
        DUE.sentence("3 any: w at the ends of 0 to 9 is accepted", () -> {
            for (int w : new int[] {0, 1, 8, 9}) {
                WeightedReader x = Given.emptyStack();
                DUE.due("any", x.any(w), 1);
                x.define();
                for (int i = 0; i < 3; i++) {
                    DUE.due("least", x.least(i, i + 1), w);
                    DUE.due("most", x.most(i, i + 1), w);
                }
            }
        });
    }

    private static void anyOrder() {
        DUE.sentence("3 any: w is tested before steps() is 20", () ->
            badCost(Given::allSteps));
        DUE.sentence("3 any: w is tested before the stack holds 8", () ->
            badCost(Given::fullStack));
        DUE.sentence("3 any: w is tested before 10 calls were accepted", () ->
            badCost(Given::tenLeaves));
    }

    private static void badCost(Supplier<WeightedReader> given) {
        refused("any(-1)", given, x -> x.any(-1), Code.BAD_ARG);
        refused("any(10)", given, x -> x.any(10), Code.BAD_ARG);
        refused("any(0)", given, x -> x.any(0), Code.FULL);
        refused("any(9)", given, x -> x.any(9), Code.FULL);
    }

    private static void leafLimits(String name, ToIntFunction<WeightedReader> leaf) {
        DUE.sentence(name + ": steps() is 20 answers FULL", () -> {
            for (int depth = 1; depth <= 7; depth++) {
                int d = depth;
                refused("at 20 steps", () -> Given.draft(20, d), leaf, Code.FULL);
            }
        });
        DUE.sentence(name + ": steps() of 19 is not yet 20", () -> {
            WeightedReader x = Given.draft(19, 1);
            DUE.due("at 19 steps", leaf.applyAsInt(x), 2);
            DUE.due("steps", x.steps(), 20);
            DUE.due("at 20 steps", leaf.applyAsInt(x), Code.FULL);
        });
        DUE.sentence(name + ": the stack holds 8 expressions answers FULL", () -> {
            refused("at 8 letters", Given::fullStack, leaf, Code.FULL);
            refused("at 8 units", () -> units(8), leaf, Code.FULL);
            refused("at 8 looped", () -> Given.draft(19, 8), leaf, Code.FULL);
        });
        DUE.sentence(name + ": a stack of 7 does not yet hold 8", () -> {
            WeightedReader x = units(7);
            DUE.due("at 7", leaf.applyAsInt(x), 8);
            DUE.due("at 8", leaf.applyAsInt(x), Code.FULL);
            DUE.due("one fewer", x.alt(), 7);
            DUE.due("at 7 again", leaf.applyAsInt(x), 8);
        });
        DUE.sentence(name + ": 10 calls of letter and any together answers FULL", () -> {
            refused("after 10, 13 steps", Given::tenLeaves, leaf, Code.FULL);
            refused("after 10, 19 steps", () -> Given.leaves(10, 1), leaf, Code.FULL);
            refused("after 10 letters", () -> tenOf(y -> y.letter(0, 1)), leaf, Code.FULL);
            refused("after 10 anys", () -> tenOf(y -> y.any(1)), leaf, Code.FULL);
        });
        DUE.sentence(name + ": 9 calls of letter and any are not yet 10", () -> {
            WeightedReader x = Given.leaves(9, 6);
            DUE.due("after 9", leaf.applyAsInt(x), 7);
            DUE.due("after 10", leaf.applyAsInt(x), Code.FULL);
        });
        DUE.sentence(name + ": all three limits reached by one call", () -> {
            WeightedReader x = Given.oneBelowEveryLimit();
            DUE.due("steps before", x.steps(), 19);
            DUE.due("one below every limit", leaf.applyAsInt(x), 8);
            DUE.due("steps", x.steps(), 20);
            DUE.due("beyond every limit", leaf.applyAsInt(x), Code.FULL);
            DUE.due("depth", x.depth(), 8);
        });
        DUE.sentence(name + ": answers the number of expressions on the stack afterwards", () -> {
            WeightedReader x = Given.emptyStack();
            for (int n = 1; n <= 8; n++) {
                DUE.due("number " + n, leaf.applyAsInt(x), n);
                DUE.due("depth", x.depth(), n);
            }
        });
    }

    private static WeightedReader units(int number) {
        WeightedReader x = Given.emptyStack();
        for (int n = 0; n < number; n++) {
            x.unit();
        }
        return x;
    }

    private static WeightedReader tenOf(ToIntFunction<WeightedReader> leaf) {
        WeightedReader x = Given.emptyStack();
        for (int n = 0; n < 10; n++) {
            leaf.applyAsInt(x);
            x.seq();
        }
        return x;
    }

    private static void leavesSinceTheStackWasEmptied(
            String name, ToIntFunction<WeightedReader> leaf) {
        DUE.sentence(name + ": 10 calls are accepted by a new object", () ->
            tenMoreAndNoEleventh(new WeightedReader(), leaf));
        DUE.sentence(name + ": 10 calls are counted anew after define", () -> {
            WeightedReader x = Given.leaves(10, 1);
            DUE.due("define", x.define(), 0);
            tenMoreAndNoEleventh(x, leaf);
        });
        DUE.sentence(name + ": 10 calls are counted anew after discard", () -> {
            WeightedReader x = Given.tenLeaves();
            x.discard();
            tenMoreAndNoEleventh(x, leaf);
        });
        DUE.sentence(name + ": 10 calls are counted on after a refused define", () -> {
            WeightedReader x = Given.tenLeaves();
            DUE.due("define", x.define(), Code.BAD_STACK);
            DUE.due("an eleventh", leaf.applyAsInt(x), Code.FULL);
        });
        DUE.sentence(name + ": a unit is not one of the 10 calls", () -> {
            WeightedReader x = Given.leaves(9, 6);
            DUE.due("unit", x.unit(), 7);
            DUE.due("a tenth", leaf.applyAsInt(x), 8);
        });
        DUE.sentence(name + ": seq, alt and loop give none of the 10 calls back", () -> {
            WeightedReader x = Given.tenLeaves();
            x.seq();
            x.alt();
            x.loop(1);
            DUE.due("depth", x.depth(), 5);
            DUE.due("an eleventh", leaf.applyAsInt(x), Code.FULL);
        });
        DUE.sentence(name + ": refused calls are none of the 10", () -> {
            WeightedReader x = Given.fullStack();
            for (int n = 0; n < 5; n++) {
                x.letter(0, 0);
                x.any(0);
                x.letter(3, 0);
                x.letter(0, 10);
                x.any(-1);
            }
            x.alt();
            DUE.due("a ninth", leaf.applyAsInt(x), 8);
            x.alt();
            DUE.due("a tenth", leaf.applyAsInt(x), 8);
            x.alt();
            DUE.due("an eleventh", leaf.applyAsInt(x), Code.FULL);
        });
    }

    private static void tenMoreAndNoEleventh(WeightedReader x, ToIntFunction<WeightedReader> leaf) {
        for (int n = 1; n <= 10; n++) {
            DUE.due("number " + n, leaf.applyAsInt(x), n == 1 ? 1 : 2);
            x.alt();
        }
        DUE.due("an eleventh", leaf.applyAsInt(x), Code.FULL);
        DUE.due("steps", x.steps(), 19);
    }

    // ---- promise 4

    private static void unitLimits() {
        DUE.sentence("4 unit: FULL if steps() is 20", () -> {
            for (int depth = 1; depth <= 7; depth++) {
                int d = depth;
                refused("at 20", () -> Given.draft(20, d), WeightedReader::unit, Code.FULL);
            }
        });
        DUE.sentence("4 unit: steps() of 19 is not yet 20", () -> {
            WeightedReader x = Given.draft(19, 1);
            DUE.due("at 19", x.unit(), 2);
            DUE.due("at 20", x.unit(), Code.FULL);
        });
        DUE.sentence("4 unit: FULL if the stack holds 8 expressions", () -> {
            refused("at 8", Given::fullStack, WeightedReader::unit, Code.FULL);
            refused("at 8 units", () -> units(8), WeightedReader::unit, Code.FULL);
        });
        DUE.sentence("4 unit: a stack of 7 does not yet hold 8", () -> {
            WeightedReader x = Given.stackOf(7);
            DUE.due("at 7", x.unit(), 8);
            DUE.due("at 8", x.unit(), Code.FULL);
        });
        DUE.sentence("4 unit: accepted after 10 calls of letter and any", () ->
            DUE.due("after 10", Given.tenLeaves().unit(), 8));
        DUE.sentence("4 unit: answers the number of expressions on the stack afterwards", () -> {
            WeightedReader x = Given.emptyStack();
            for (int n = 1; n <= 8; n++) {
                DUE.due("number " + n, x.unit(), n);
                DUE.due("steps", x.steps(), n);
            }
        });
    }

    // ---- promises 5 and 6

    private static void joinLimits(String name, ToIntFunction<WeightedReader> join) {
        DUE.sentence(name + ": steps() is 20 answers FULL", () -> {
            for (int depth = 2; depth <= 8; depth++) {
                int d = depth;
                refused("at 20", () -> Given.draft(20, d), join, Code.FULL);
            }
        });
        DUE.sentence(name + ": steps() is tested before fewer than two on the stack", () ->
            refused("at 20, one", () -> Given.draft(20, 1), join, Code.FULL));
        DUE.sentence(name + ": steps() of 19 is not yet 20", () -> {
            WeightedReader x = Given.draft(19, 2);
            DUE.due("at 19", join.applyAsInt(x), 1);
            DUE.due("steps", x.steps(), 20);
            DUE.due("at 20", join.applyAsInt(x), Code.FULL);
        });
        DUE.sentence(name + ": an empty stack answers BAD_STACK", () ->
            refused("of none", Given::emptyStack, join, Code.BAD_STACK));
        DUE.sentence(name + ": one on the stack answers BAD_STACK", () -> {
            refused("of one", () -> Given.stackOf(1), join, Code.BAD_STACK);
            refused("of one, 19 steps", () -> Given.draft(19, 1), join, Code.BAD_STACK);
        });
        DUE.sentence(name + ": answers the number on the stack afterwards, from 8 to 1", () -> {
            for (int depth = 2; depth <= 8; depth++) {
                WeightedReader x = Given.stackOf(depth);
                DUE.due("of " + depth, join.applyAsInt(x), depth - 1);
                DUE.due("depth", x.depth(), depth - 1);
            }
            WeightedReader x = Given.fullStack();
            for (int left = 7; left >= 1; left--) {
                DUE.due("down to " + left, join.applyAsInt(x), left);
            }
            DUE.due("of the last", join.applyAsInt(x), Code.BAD_STACK);
        });
    }

    // ---- promise 7

    private static void loopArguments() {
        DUE.sentence("7 loop: p not 0 to 9 answers BAD_ARG", () -> {
            for (int p : Given.NOT_COSTS) {
                refused("loop(" + p + ")", () -> Given.stackOf(1), x -> x.loop(p), Code.BAD_ARG);
            }
        });
        DUE.sentence("7 loop: p at the ends of 0 to 9 is accepted", () -> {
            for (int p : new int[] {0, 1, 8, 9}) {
                WeightedReader x = Given.emptyStack();
                x.any(2);
                DUE.due("loop", x.loop(p), 1);
                x.define();
                DUE.due("least", x.least(0, 3), 6 + 3 * p);
                DUE.due("most", x.most(0, 3), 6 + 3 * p);
            }
        });
        DUE.sentence("7 loop: p is tested before steps() is 20", () -> {
            refused("loop(-1)", Given::allSteps, x -> x.loop(-1), Code.BAD_ARG);
            refused("loop(10)", Given::allSteps, x -> x.loop(10), Code.BAD_ARG);
        });
        DUE.sentence("7 loop: p is tested before the empty stack", () -> {
            refused("loop(-1)", Given::emptyStack, x -> x.loop(-1), Code.BAD_ARG);
            refused("loop(10)", Given::emptyStack, x -> x.loop(10), Code.BAD_ARG);
        });
    }

    private static void loopLimits() {
        DUE.sentence("7 loop: steps() is 20 answers FULL", () -> {
            for (int depth = 1; depth <= 8; depth++) {
                int d = depth;
                refused("loop(0)", () -> Given.draft(20, d), x -> x.loop(0), Code.FULL);
                refused("loop(9)", () -> Given.draft(20, d), x -> x.loop(9), Code.FULL);
            }
        });
        DUE.sentence("7 loop: steps() of 19 is not yet 20", () -> {
            WeightedReader x = Given.draft(19, 1);
            DUE.due("at 19", x.loop(3), 1);
            DUE.due("at 20", x.loop(3), Code.FULL);
        });
        DUE.sentence("7 loop: empty stack answers BAD_STACK", () -> {
            refused("loop(0)", Given::emptyStack, x -> x.loop(0), Code.BAD_STACK);
            refused("loop(9)", Given::emptyStack, x -> x.loop(9), Code.BAD_STACK);
        });
        DUE.sentence("7 loop: answers the number of expressions on the stack, 1 to 8", () -> {
            for (int depth = 1; depth <= 8; depth++) {
                WeightedReader x = Given.stackOf(depth);
                DUE.due("of " + depth, x.loop(5), depth);
                DUE.due("depth", x.depth(), depth);
                DUE.due("steps", x.steps(), depth + 1);
            }
        });
    }

    // ---- promises 8 and 9

    private static void stepsRange() {
        DUE.sentence("8 steps: 0 when the object was made, and up to 20 since", () -> {
            WeightedReader x = new WeightedReader();
            DUE.due("steps", x.steps(), 0);
            x.unit();
            for (int n = 0; n < 25; n++) {
                x.loop(0);
            }
            DUE.due("steps", x.steps(), 20);
        });
        DUE.sentence("8 steps: 0 to 20, every accepted call one more", () -> {
            WeightedReader x = Given.emptyStack();
            x.unit();
            for (int n = 1; n <= 20; n++) {
                DUE.due("steps", x.steps(), n);
                x.loop(0);
            }
            DUE.due("never above 20", x.steps(), 20);
        });
        DUE.sentence("8 steps: 0 since the stack was emptied by define", () -> {
            WeightedReader x = Given.draft(20, 1);
            DUE.due("steps", x.steps(), 20);
            x.define();
            DUE.due("steps after define", x.steps(), 0);
            DUE.due("unit", x.unit(), 1);
            DUE.due("steps after unit", x.steps(), 1);
        });
        DUE.sentence("8 steps: 0 since the stack was emptied by discard", () -> {
            WeightedReader x = Given.draft(20, 8);
            x.discard();
            DUE.due("steps", x.steps(), 0);
        });
        DUE.sentence("8 steps: a refused define does not empty the stack", () -> {
            WeightedReader x = Given.allSteps();
            DUE.due("define", x.define(), Code.BAD_STACK);
            DUE.due("steps", x.steps(), 20);
        });
        DUE.sentence("8 steps: no call but letter, any, unit, seq, alt and loop counts", () -> {
            WeightedReader x = Given.draft(5, 2);
            x.type(0);
            x.put(0, 1);
            x.shift();
            x.length();
            x.depth();
            x.ways(0, 1);
            x.least(0, 1);
            x.most(0, 1);
            x.windows();
            x.allWays();
            x.longest(0);
            x.cover();
            DUE.due("steps", x.steps(), 5);
        });
    }

    private static void depthRange() {
        DUE.sentence("9 depth: 0 to 8", () -> {
            for (int depth = 0; depth <= 8; depth++) {
                DUE.due("depth", Given.stackOf(depth).depth(), depth);
            }
            WeightedReader x = Given.fullStack();
            x.unit();
            x.letter(0, 0);
            x.any(0);
            DUE.due("never above 8", x.depth(), 8);
        });
        DUE.sentence("9 depth: 0 after define and after discard", () -> {
            WeightedReader x = Given.stackOf(1);
            x.define();
            DUE.due("after define", x.depth(), 0);
            WeightedReader y = Given.fullStack();
            y.discard();
            DUE.due("after discard", y.depth(), 0);
        });
    }

    // ---- promise 10

    private static void discardBoundaries() {
        DUE.sentence("10 discard: empties the stack, empty, of one and full", () -> {
            for (int depth = 0; depth <= 8; depth++) {
                WeightedReader x = Given.stackOf(depth);
                x.discard();
                DUE.due("depth", x.depth(), 0);
                DUE.due("steps", x.steps(), 0);
                DUE.due("seq", x.seq(), Code.BAD_STACK);
                DUE.due("loop", x.loop(0), Code.BAD_STACK);
                DUE.due("define", x.define(), Code.BAD_STACK);
            }
        });
        DUE.sentence("10 discard: sets steps() to 0, from 20", () -> {
            WeightedReader x = Given.allSteps();
            x.discard();
            DUE.due("steps", x.steps(), 0);
            DUE.due("unit", x.unit(), 1);
            for (int n = 2; n <= 20; n++) {
                DUE.due("step " + n, x.loop(0), 1);
            }
            DUE.due("step 21", x.loop(0), Code.FULL);
        });
        DUE.sentence("10 discard: a full stack has room for 8 again", () -> {
            WeightedReader x = Given.fullStack();
            x.discard();
            for (int n = 1; n <= 8; n++) {
                DUE.due("unit " + n, x.unit(), n);
            }
            DUE.due("unit 9", x.unit(), Code.FULL);
        });
        DUE.sentence("10 discard: the text and the expression in use stay", () -> {
            WeightedReader x = Given.draft(20, 8);
            x.discard();
            DUE.due("length", x.length(), 3);
            DUE.due("ways", x.ways(0, 3), 2);
            DUE.due("least", x.least(0, 3), 4 + 6 + 6);
        });
    }

    // ---- promise 11

    private static void defineBoundaries() {
        DUE.sentence("11 define: BAD_STACK if the stack is empty", () ->
            refused("of none", Given::emptyStack, WeightedReader::define, Code.BAD_STACK));
        DUE.sentence("11 define: BAD_STACK if the stack holds two to 8", () -> {
            for (int depth = 2; depth <= 8; depth++) {
                int d = depth;
                refused("of " + d, () -> Given.stackOf(d), WeightedReader::define, Code.BAD_STACK);
            }
        });
        DUE.sentence("11 define: BAD_STACK with two and steps() at 20", () ->
            refused("of two", Given::allSteps, WeightedReader::define, Code.BAD_STACK));
        DUE.sentence("11 define: exactly one answers 0", () -> {
            for (int steps = 1; steps <= 20; steps++) {
                WeightedReader x = Given.draft(steps, 1);
                DUE.due("after " + steps + " steps", x.define(), 0);
                DUE.due("steps", x.steps(), 0);
                DUE.due("depth", x.depth(), 0);
            }
        });
        DUE.sentence("11 define: empties the stack, so that a second one is refused", () -> {
            for (int steps : new int[] {1, 20}) {
                refused("of none", () -> defined(Given.draft(steps, 1)), WeightedReader::define,
                    Code.BAD_STACK);
            }
        });
        DUE.sentence("11 define: the expression of 20 steps is in use", () -> {
            // letter 0 0 in 19 loops of p = 1, 2, .. 9, 0, 1, .. 9: a letter is one piece of each.
            WeightedReader x = defined(Given.draft(20, 1));
            DUE.due("least", x.least(0, 1), 45 + 45);
            DUE.due("ways", x.ways(0, 1), 1);
            DUE.due("another letter", x.ways(1, 2), 0);
        });
        DUE.sentence("11 define: the expression of one step is in use after one of 20", () -> {
            WeightedReader x = defined(Given.draft(20, 1));
            x.letter(1, 7);
            x.define();
            DUE.due("least", x.least(1, 2), 7);
            DUE.due("ways of nothing", x.ways(0, 0), 0);
            DUE.due("windows", x.windows(), 1);
        });
        DUE.sentence("11 define: the text stays, empty and full", () -> {
            for (int n = 0; n <= 8; n++) {
                WeightedReader x = Given.textOf(n);
                x.any(2);
                x.define();
                DUE.due("length", x.length(), n);
                DUE.due("windows", x.windows(), n);
                for (int i = 0; i < n; i++) {
                    DUE.due("letter at " + i, x.shift(), i % 3);
                }
            }
        });
        DUE.sentence("11 define: what is drafted afterwards is not in use before define", () -> {
            WeightedReader x = Given.emptyStack();
            x.letter(1, 7);
            x.define();
            for (int n = 0; n < 8; n++) {
                x.any(0);
            }
            DUE.due("least", x.least(1, 2), 7);
            DUE.due("windows", x.windows(), 1);
        });
    }

    private static WeightedReader defined(WeightedReader x) {
        x.define();
        return x;
    }

    private static void refused(String call, Supplier<WeightedReader> given,
            ToIntFunction<WeightedReader> refused, int code) {
        Refused.due(DUE, call, given, refused, code);
    }
}
