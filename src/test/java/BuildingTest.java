/** Promises 1 to 11: a new object, and building an expression on the stack. */
public final class BuildingTest {
    private static final Due DUE = new Due("BuildingTest");

    public static void main(String[] args) {
        newObject();
        letterReads();
        letterRefuses();
        anyReads();
        anyRefuses();
        leavesAreCountedTogether();
        leavesAreCountedAnewAfterEmptying();
        refusedLeavesAreNotCounted();
        unitReads();
        unitRefuses();
        seqReadsInOrder();
        altCountsBothKinds();
        joinsRefuse();
        loopReads();
        loopRefuses();
        fullStackMayBeWorkedOn();
        stepsAndDepth();
        discardEmpties();
        defineTakesExactlyOne();
        defineKeepsTheText();
        draftDoesNotTouchTheExpressionInUse();
        DUE.finish();
    }

    private static void newObject() {
        WeightedReader x = new WeightedReader();
        DUE.due("1 length", x.length(), 0);
        DUE.due("1 depth", x.depth(), 0);
        DUE.due("1 steps", x.steps(), 0);
        DUE.due("1 ways", x.ways(0, 0), 1);
        DUE.due("1 least", x.least(0, 0), 0);
        DUE.due("1 most", x.most(0, 0), 0);
        DUE.due("1 windows", x.windows(), 1);
        DUE.due("1 allWays", x.allWays(), 1);
        DUE.due("1 longest", x.longest(0), 0);
        DUE.due("1 cover", x.cover(), 0);
        x.type(0);
        DUE.due("1 ways of a letter", x.ways(0, 1), 0);
        DUE.due("1 ways at the end", x.ways(1, 1), 1);
        DUE.due("1 cover of a letter", x.cover(), 12);
    }

    private static void letterReads() {
        for (int c = 0; c <= 2; c++) {
            for (int w = 0; w <= 9; w++) {
                WeightedReader x = new WeightedReader();
                DUE.due("2 letter", x.letter(c, w), 1);
                x.define();
                Given.text(x, 0, 1, 2);
                for (int i = 0; i < 3; i++) {
                    DUE.due("2 ways of letter " + i, x.ways(i, i + 1), i == c ? 1 : 0);
                    DUE.due("2 least of letter " + i, x.least(i, i + 1), i == c ? w : Code.NONE);
                    DUE.due("2 most of letter " + i, x.most(i, i + 1), i == c ? w : Code.NONE);
                }
                DUE.due("2 ways of nothing", x.ways(c, c), 0);
                DUE.due("2 windows", x.windows(), 1);
            }
        }
    }

    private static void letterRefuses() {
        WeightedReader x = new WeightedReader();
        for (int bad : Given.NOT_LETTERS) {
            DUE.due("2 letter(" + bad + ", 0)", x.letter(bad, 0), Code.BAD_ARG);
        }
        for (int bad : Given.NOT_COSTS) {
            DUE.due("2 letter(0, " + bad + ")", x.letter(0, bad), Code.BAD_ARG);
        }
        DUE.due("2 nothing changed, steps", x.steps(), 0);
        DUE.due("2 nothing changed, depth", x.depth(), 0);
        for (int n = 1; n <= 8; n++) {
            DUE.due("2 letter number " + n, x.letter(n % 3, n), n);
        }
        DUE.due("2 full stack", x.letter(0, 0), Code.FULL);
        DUE.due("2 bad letter before full stack", x.letter(3, 0), Code.BAD_ARG);
        DUE.due("2 bad cost before full stack", x.letter(0, 10), Code.BAD_ARG);
        DUE.due("2 full stack, steps", x.steps(), 8);
        DUE.due("2 full stack, depth", x.depth(), 8);

        WeightedReader y = withAllSteps();
        DUE.due("2 all steps", y.letter(0, 0), Code.FULL);
        DUE.due("2 bad letter before all steps", y.letter(-1, 0), Code.BAD_ARG);
        DUE.due("2 bad cost before all steps", y.letter(0, -1), Code.BAD_ARG);
        DUE.due("2 all steps, depth", y.depth(), 2);
    }

    private static void anyReads() {
        for (int w = 0; w <= 9; w++) {
            WeightedReader x = new WeightedReader();
            DUE.due("3 any", x.any(w), 1);
            x.define();
            Given.text(x, 2, 0, 1);
            for (int i = 0; i < 3; i++) {
                DUE.due("3 ways", x.ways(i, i + 1), 1);
                DUE.due("3 least", x.least(i, i + 1), w);
                DUE.due("3 most", x.most(i, i + 1), w);
            }
            DUE.due("3 ways of nothing", x.ways(3, 3), 0);
            DUE.due("3 ways of two letters", x.ways(0, 2), 0);
            DUE.due("3 windows", x.windows(), 3);
        }
    }

    private static void anyRefuses() {
        WeightedReader x = new WeightedReader();
        for (int bad : Given.NOT_COSTS) {
            DUE.due("3 any(" + bad + ")", x.any(bad), Code.BAD_ARG);
        }
        DUE.due("3 nothing changed, steps", x.steps(), 0);
        for (int n = 1; n <= 8; n++) {
            DUE.due("3 any number " + n, x.any(n), n);
        }
        DUE.due("3 full stack", x.any(0), Code.FULL);
        DUE.due("3 bad cost before full stack", x.any(10), Code.BAD_ARG);
        DUE.due("3 full stack, steps", x.steps(), 8);

        WeightedReader y = withAllSteps();
        DUE.due("3 all steps", y.any(0), Code.FULL);
        DUE.due("3 bad cost before all steps", y.any(10), Code.BAD_ARG);
    }

    private static void leavesAreCountedTogether() {
        WeightedReader x = withTenLeaves();
        DUE.due("2 ten leaves, steps", x.steps(), 19);
        DUE.due("2 an eleventh letter", x.letter(0, 0), Code.FULL);
        DUE.due("3 an eleventh any", x.any(0), Code.FULL);
        DUE.due("2 bad letter before ten leaves", x.letter(3, 0), Code.BAD_ARG);
        DUE.due("3 bad cost before ten leaves", x.any(-1), Code.BAD_ARG);
        DUE.due("4 unit is no leaf", x.unit(), 2);
        DUE.due("2 ten leaves, steps afterwards", x.steps(), 20);
    }

    private static void leavesAreCountedAnewAfterEmptying() {
        WeightedReader x = withTenLeaves();
        x.discard();
        DUE.due("2 letter after discard", x.letter(0, 0), 1);
        x.discard();
        makeTenLeaves(x);
        DUE.due("2 define of ten leaves", x.define(), 0);
        DUE.due("3 any after define", x.any(0), 1);
    }

    private static void refusedLeavesAreNotCounted() {
        WeightedReader x = new WeightedReader();
        for (int n = 0; n < 12; n++) {
            x.letter(3, 0);
            x.any(10);
        }
        for (int n = 0; n < 8; n++) {
            x.unit();
        }
        for (int n = 0; n < 12; n++) {
            x.letter(0, 0);
            x.any(0);
        }
        for (int n = 0; n < 7; n++) {
            x.alt();
        }
        DUE.due("2 letter after many refused", x.letter(0, 0), 2);
        DUE.due("3 any after many refused", x.any(0), 3);
        DUE.due("2 steps after many refused", x.steps(), 17);
    }

    private static void unitReads() {
        WeightedReader x = new WeightedReader();
        x.any(3);
        x.define();
        DUE.due("4 unit", x.unit(), 1);
        DUE.due("4 second unit", x.unit(), 2);
        x.discard();
        x.unit();
        x.define();
        Given.text(x, 1, 1);
        DUE.due("4 ways of nothing", x.ways(1, 1), 1);
        DUE.due("4 least of nothing", x.least(2, 2), 0);
        DUE.due("4 most of nothing", x.most(0, 0), 0);
        DUE.due("4 ways of a letter", x.ways(0, 1), 0);
        DUE.due("4 windows", x.windows(), 3);
    }

    private static void unitRefuses() {
        WeightedReader x = new WeightedReader();
        for (int n = 1; n <= 8; n++) {
            DUE.due("4 unit number " + n, x.unit(), n);
        }
        DUE.due("4 full stack", x.unit(), Code.FULL);
        DUE.due("4 full stack, steps", x.steps(), 8);
        DUE.due("4 full stack, depth", x.depth(), 8);
        WeightedReader y = withAllSteps();
        DUE.due("4 all steps", y.unit(), Code.FULL);
        DUE.due("4 all steps, steps", y.steps(), 20);
        DUE.due("4 all steps, depth", y.depth(), 2);
    }

    private static void seqReadsInOrder() {
        WeightedReader x = new WeightedReader();
        x.letter(0, 2);
        x.letter(1, 5);
        DUE.due("5 seq", x.seq(), 1);
        x.define();
        Given.text(x, 0, 1, 0);
        DUE.due("5 ways of 01", x.ways(0, 2), 1);
        DUE.due("5 least of 01", x.least(0, 2), 7);
        DUE.due("5 most of 01", x.most(0, 2), 7);
        DUE.due("5 ways of 10", x.ways(1, 3), 0);
        DUE.due("5 ways of 0", x.ways(0, 1), 0);

        // Each cut of the window, its two empty parts included, is another reading.
        WeightedReader y = new WeightedReader();
        y.any(1);
        y.loop(0);
        y.any(2);
        y.loop(0);
        y.seq();
        y.define();
        Given.text(y, 0, 1, 2);
        DUE.due("5 ways by cuts", y.ways(0, 3), 4);
        DUE.due("5 least by cuts", y.least(0, 3), 3);
        DUE.due("5 most by cuts", y.most(0, 3), 6);
        DUE.due("5 ways of nothing", y.ways(2, 2), 1);

        WeightedReader z = new WeightedReader();
        z.letter(2, 9);
        z.letter(0, 1);
        z.letter(1, 1);
        DUE.due("5 seq over a third", z.seq(), 2);
        z.alt();
        z.define();
        Given.text(z, 0, 1, 2);
        DUE.due("5 the third stays below", z.ways(2, 3), 1);
        DUE.due("5 the two on top are joined", z.ways(0, 2), 1);
    }

    private static void altCountsBothKinds() {
        WeightedReader x = new WeightedReader();
        x.letter(0, 4);
        x.letter(0, 4);
        DUE.due("6 alt", x.alt(), 1);
        x.define();
        x.type(0);
        DUE.due("6 ways by the same twice", x.ways(0, 1), 2);
        DUE.due("6 least by the same twice", x.least(0, 1), 4);

        int[][] costs = {{3, 8}, {8, 3}};
        for (int[] pair : costs) {
            WeightedReader y = new WeightedReader();
            y.letter(0, pair[0]);
            y.any(pair[1]);
            y.alt();
            y.define();
            Given.text(y, 0, 1);
            DUE.due("6 ways by both", y.ways(0, 1), 2);
            DUE.due("6 least by both", y.least(0, 1), 3);
            DUE.due("6 most by both", y.most(0, 1), 8);
            DUE.due("6 ways by one", y.ways(1, 2), 1);
            DUE.due("6 least by one", y.least(1, 2), pair[1]);
            DUE.due("6 most by one", y.most(1, 2), pair[1]);
            DUE.due("6 ways of two letters", y.ways(0, 2), 0);
        }

        WeightedReader z = new WeightedReader();
        z.unit();
        z.unit();
        z.alt();
        z.define();
        DUE.due("6 ways of nothing", z.ways(0, 0), 2);
        DUE.due("6 most of nothing", z.most(0, 0), 0);
    }

    private static void joinsRefuse() {
        WeightedReader x = new WeightedReader();
        DUE.due("5 seq of none", x.seq(), Code.BAD_STACK);
        DUE.due("6 alt of none", x.alt(), Code.BAD_STACK);
        x.letter(1, 6);
        DUE.due("5 seq of one", x.seq(), Code.BAD_STACK);
        DUE.due("6 alt of one", x.alt(), Code.BAD_STACK);
        DUE.due("5 refused, steps", x.steps(), 1);
        DUE.due("5 refused, depth", x.depth(), 1);
        x.define();
        x.type(1);
        DUE.due("5 refused, the one is as it was", x.least(0, 1), 6);

        WeightedReader y = withAllSteps();
        DUE.due("5 all steps", y.seq(), Code.FULL);
        DUE.due("6 all steps", y.alt(), Code.FULL);
        DUE.due("5 all steps, depth", y.depth(), 2);

        WeightedReader z = withTenLeaves();
        z.loop(0);
        DUE.due("5 all steps before too few", z.seq(), Code.FULL);
        DUE.due("6 all steps before too few", z.alt(), Code.FULL);
        DUE.due("5 all steps, one left", z.depth(), 1);
    }

    private static void loopReads() {
        for (int p = 0; p <= 9; p++) {
            WeightedReader x = new WeightedReader();
            x.letter(0, 2);
            DUE.due("7 loop", x.loop(p), 1);
            x.define();
            Given.text(x, 0, 0, 0, 1);
            DUE.due("7 ways", x.ways(0, 3), 1);
            DUE.due("7 least", x.least(0, 3), 6 + 3 * p);
            DUE.due("7 most of one piece", x.most(1, 2), 2 + p);
            DUE.due("7 ways of nothing", x.ways(4, 4), 1);
            DUE.due("7 most of nothing", x.most(4, 4), 0);
            DUE.due("7 ways with another letter", x.ways(0, 4), 0);
        }

        WeightedReader x = new WeightedReader();
        x.unit();
        x.loop(9);
        x.define();
        x.type(0);
        DUE.due("7 loop of unit, nothing", x.ways(0, 0), 1);
        DUE.due("7 loop of unit, cost", x.most(0, 0), 0);
        DUE.due("7 loop of unit, a letter", x.ways(0, 1), 0);

        // No piece is empty, so that the body's two readings of nothing play no part.
        WeightedReader y = new WeightedReader();
        y.unit();
        y.unit();
        y.alt();
        y.any(1);
        y.alt();
        y.loop(3);
        y.define();
        Given.text(y, 0, 1);
        DUE.due("7 loop of body with unit, nothing", y.ways(0, 0), 1);
        DUE.due("7 loop of body with unit, two", y.ways(0, 2), 1);
        DUE.due("7 loop of body with unit, cost", y.most(0, 2), 8);

        // Pieces of one letter or two: 3 letters are 1+1+1, 1+2 or 2+1.
        WeightedReader z = new WeightedReader();
        z.any(1);
        z.any(0);
        z.any(9);
        z.seq();
        z.alt();
        z.loop(2);
        z.define();
        Given.text(z, 0, 1, 2);
        DUE.due("7 pieces, ways", z.ways(0, 3), 3);
        DUE.due("7 pieces, least", z.least(0, 3), 9);
        DUE.due("7 pieces, most", z.most(0, 3), 14);

        WeightedReader w = new WeightedReader();
        w.letter(0, 1);
        w.letter(1, 1);
        DUE.due("7 loop over the top only", w.loop(0), 2);
        w.seq();
        w.define();
        Given.text(w, 0, 1, 1);
        DUE.due("7 the one below is not looped", w.ways(0, 3), 1);
        DUE.due("7 the one below is needed", w.ways(1, 3), 0);
    }

    private static void loopRefuses() {
        WeightedReader x = new WeightedReader();
        DUE.due("7 empty stack", x.loop(0), Code.BAD_STACK);
        for (int bad : Given.NOT_COSTS) {
            DUE.due("7 bad cost before empty stack", x.loop(bad), Code.BAD_ARG);
        }
        DUE.due("7 refused, steps", x.steps(), 0);
        x.any(1);
        for (int bad : Given.NOT_COSTS) {
            DUE.due("7 loop(" + bad + ")", x.loop(bad), Code.BAD_ARG);
        }
        DUE.due("7 refused, still one step", x.steps(), 1);
        WeightedReader y = withAllSteps();
        DUE.due("7 all steps", y.loop(0), Code.FULL);
        DUE.due("7 bad cost before all steps", y.loop(10), Code.BAD_ARG);
        DUE.due("7 all steps, depth", y.depth(), 2);
    }

    private static void fullStackMayBeWorkedOn() {
        WeightedReader x = new WeightedReader();
        for (int n = 0; n < 8; n++) {
            x.any(n);
        }
        DUE.due("7 loop on a full stack", x.loop(1), 8);
        DUE.due("5 seq on a full stack", x.seq(), 7);
        DUE.due("6 alt afterwards", x.alt(), 6);
        DUE.due("3 any afterwards", x.any(0), 7);
    }

    private static void stepsAndDepth() {
        WeightedReader x = new WeightedReader();
        x.letter(0, 0);
        DUE.due("8 after letter", x.steps(), 1);
        x.any(0);
        DUE.due("8 after any", x.steps(), 2);
        DUE.due("9 after any", x.depth(), 2);
        x.unit();
        DUE.due("8 after unit", x.steps(), 3);
        DUE.due("9 after unit", x.depth(), 3);
        x.seq();
        DUE.due("8 after seq", x.steps(), 4);
        DUE.due("9 after seq", x.depth(), 2);
        x.alt();
        DUE.due("8 after alt", x.steps(), 5);
        DUE.due("9 after alt", x.depth(), 1);
        x.loop(0);
        DUE.due("8 after loop", x.steps(), 6);
        DUE.due("9 after loop", x.depth(), 1);
        x.type(0);
        x.cover();
        x.shift();
        DUE.due("8 other calls do not count", x.steps(), 6);
        x.define();
        DUE.due("8 after define", x.steps(), 0);
        DUE.due("9 after define", x.depth(), 0);
    }

    private static void discardEmpties() {
        WeightedReader x = new WeightedReader();
        x.any(4);
        x.define();
        x.type(1);
        x.unit();
        x.unit();
        x.discard();
        DUE.due("10 steps", x.steps(), 0);
        DUE.due("10 depth", x.depth(), 0);
        DUE.due("10 the text stays", x.length(), 1);
        DUE.due("10 the expression in use stays", x.least(0, 1), 4);
        DUE.due("10 nothing to define", x.define(), Code.BAD_STACK);
        DUE.due("10 first afterwards", x.unit(), 1);
        x.discard();
        x.discard();
        DUE.due("10 twice", x.depth(), 0);
        WeightedReader y = withAllSteps();
        y.discard();
        DUE.due("10 steps are free again", y.unit(), 1);
    }

    private static void defineTakesExactlyOne() {
        WeightedReader x = new WeightedReader();
        DUE.due("11 of none", x.define(), Code.BAD_STACK);
        x.any(3);
        x.any(5);
        DUE.due("11 of two", x.define(), Code.BAD_STACK);
        DUE.due("11 refused, steps", x.steps(), 2);
        DUE.due("11 refused, depth", x.depth(), 2);
        DUE.due("11 refused, unit is still in use", x.ways(0, 0), 1);
        x.alt();
        DUE.due("11 of one", x.define(), 0);
        DUE.due("11 steps", x.steps(), 0);
        DUE.due("11 depth", x.depth(), 0);
        x.type(2);
        DUE.due("11 in use", x.most(0, 1), 5);
        DUE.due("11 again, of none", x.define(), Code.BAD_STACK);
        DUE.due("11 still in use", x.least(0, 1), 3);

        WeightedReader y = withTenLeaves();
        y.loop(0);
        DUE.due("11 of twenty steps", y.define(), 0);
        y.type(0);
        DUE.due("11 of twenty steps, ways", y.ways(0, 1), 10);
        y.any(7);
        y.define();
        DUE.due("11 a shorter one afterwards", y.ways(0, 1), 1);
        DUE.due("11 a shorter one's cost", y.least(0, 1), 7);
        DUE.due("11 a shorter one, nothing", y.ways(0, 0), 0);
    }

    private static void defineKeepsTheText() {
        WeightedReader x = new WeightedReader();
        Given.text(x, 2, 1, 0);
        x.letter(1, 1);
        x.define();
        DUE.due("11 length stays", x.length(), 3);
        DUE.due("11 letters stay", x.ways(1, 2), 1);
        DUE.due("11 first letter stays", x.shift(), 2);
    }

    private static void draftDoesNotTouchTheExpressionInUse() {
        WeightedReader x = new WeightedReader();
        x.letter(0, 1);
        x.letter(1, 1);
        x.seq();
        x.define();
        Given.text(x, 0, 1);
        x.letter(2, 9);
        x.unit();
        x.alt();
        x.loop(9);
        DUE.due("11 in use while drafting, ways", x.ways(0, 2), 1);
        DUE.due("11 in use while drafting, least", x.least(0, 2), 2);
        DUE.due("11 in use while drafting, windows", x.windows(), 1);
        DUE.due("8 questions do not count", x.steps(), 4);
    }

    /** 20 steps, two expressions on the stack, and only three calls of letter and any. */
    private static WeightedReader withAllSteps() {
        WeightedReader x = new WeightedReader();
        x.any(0);
        x.any(0);
        x.letter(0, 0);
        x.alt();
        for (int n = 0; n < 16; n++) {
            x.loop(0);
        }
        DUE.due("8 all steps", x.steps(), 20);
        return x;
    }

    /** 19 steps and one expression on the stack: ten leaves, five of each kind, and 9 alts. */
    private static WeightedReader withTenLeaves() {
        WeightedReader x = new WeightedReader();
        makeTenLeaves(x);
        return x;
    }

    private static void makeTenLeaves(WeightedReader x) {
        for (int n = 0; n < 10; n++) {
            int due = n == 0 ? 1 : 2;
            DUE.due("2 leaf " + n, n % 2 == 0 ? x.letter(0, n) : x.any(n), due);
            if (n > 0) {
                x.alt();
            }
        }
    }
}
