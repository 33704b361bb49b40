/**
 * Objects in the states that the document's limits are about. Each has a text and an expression
 * of its own in use, so that a call that wrongly changes them can be seen to do so.
 */
final class Given {
    static final int[] NOT_LETTERS =
        {-1, 3, -2, 4, 9, Integer.MIN_VALUE, Integer.MIN_VALUE + 1, Integer.MAX_VALUE};
    static final int[] NOT_COSTS =
        {-1, 10, -2, 11, 12, Integer.MIN_VALUE, Integer.MIN_VALUE + 1, Integer.MAX_VALUE};

    private Given() {
    }

    static void text(WeightedReader x, int... letters) {
        for (int c : letters) {
            x.type(c);
        }
    }

    /** loop 1 (letter 0 3 | any 5) in use, a text of n letters 0, 1, 2, 0, 1 .., an empty stack. */
    static WeightedReader textOf(int n) {
        WeightedReader x = new WeightedReader();
        x.letter(0, 3);
        x.any(5);
        x.alt();
        x.loop(1);
        x.define();
        for (int i = 0; i < n; i++) {
            x.type(i % 3);
        }
        return x;
    }

    static WeightedReader fullText() {
        return textOf(8);
    }

    static WeightedReader emptyStack() {
        return textOf(3);
    }

    /** As many calls of letter as the stack is deep; the other steps are loops on the top one. */
    static WeightedReader draft(int steps, int depth) {
        WeightedReader x = emptyStack();
        for (int n = 0; n < depth; n++) {
            x.letter(n % 3, n);
        }
        for (int n = depth; n < steps; n++) {
            x.loop(n % 10);
        }
        return x;
    }

    static WeightedReader stackOf(int depth) {
        return draft(depth, depth);
    }

    static WeightedReader fullStack() {
        return stackOf(8);
    }

    static WeightedReader allSteps() {
        return draft(20, 2);
    }

    /** Leaves are the calls of letter and any; alts keep no more than some on the stack. */
    static WeightedReader leaves(int number, int depth) {
        WeightedReader x = emptyStack();
        pushLeaves(x, number, depth);
        return x;
    }

    static void pushLeaves(WeightedReader x, int number, int depth) {
        for (int n = 0; n < number; n++) {
            if (n % 2 == 0) {
                x.letter(n % 3, n % 10);
            } else {
                x.any(n % 10);
            }
            if (x.depth() > depth) {
                x.alt();
            }
        }
    }

    /** 13 steps and 7 expressions: no limit is reached but that of ten leaves. */
    static WeightedReader tenLeaves() {
        return leaves(10, 7);
    }

    /** 9 leaves, 7 expressions, 19 steps: one more leaf reaches all three limits at once. */
    static WeightedReader oneBelowEveryLimit() {
        WeightedReader x = leaves(9, 7);
        for (int n = 0; n < 8; n++) {
            x.loop(n);
        }
        return x;
    }

    /** The expression is an alt of some leaves, any 1, inside some loops of p = 0. */
    static void useLoopsOverLeaves(WeightedReader x, int leaves, int loops) {
        pushLoopsOverLeaves(x, leaves, loops);
        x.define();
    }

    static void pushLoopsOverLeaves(WeightedReader x, int leaves, int loops) {
        for (int n = 0; n < leaves; n++) {
            x.any(1);
            if (n > 0) {
                x.alt();
            }
        }
        for (int n = 0; n < loops; n++) {
            x.loop(0);
        }
    }
}
