/** Promises 16 to 22: the questions about the readings. */
public final class QuestionTest {
    private static final Due DUE = new Due("QuestionTest");

    public static void main(String[] args) {
        ordinaryWindows();
        notWindows();
        countsThatWrapToZero();
        wrappedCountsAsOperands();
        nothingIsRead();
        longestMayBeEmptyOrAbsent();
        longestRefuses();
        coverChoosesTheCheapest();
        coverHasNoEmptyPieces();
        questionsChangeNothing();
        eachQuestionMayComeFirst();
        costsInAnyOrder();
        DUE.finish();
    }

    /** loop 1 (01 | 0 | 1), where 01 costs 2 in one piece and 4 + 5 = 9 in two. */
    private static WeightedReader pairsOrLetters() {
        WeightedReader x = new WeightedReader();
        x.letter(0, 1);
        x.letter(1, 0);
        x.seq();
        x.letter(0, 3);
        x.alt();
        x.letter(1, 4);
        x.alt();
        x.loop(1);
        x.define();
        return x;
    }

    private static void ordinaryWindows() {
        WeightedReader x = pairsOrLetters();
        Given.text(x, 0, 1, 2, 0, 1, 0, 1);
        DUE.due("16 one pair", x.ways(0, 2), 2);
        DUE.due("17 one pair", x.least(0, 2), 2);
        DUE.due("18 one pair", x.most(0, 2), 9);
        DUE.due("16 two pairs", x.ways(3, 7), 4);
        DUE.due("17 two pairs", x.least(3, 7), 4);
        DUE.due("18 two pairs", x.most(3, 7), 18);
        DUE.due("16 across", x.ways(4, 6), 1);
        DUE.due("17 across", x.least(4, 6), 9);
        DUE.due("16 with a 2", x.ways(0, 3), 0);
        DUE.due("17 with a 2", x.least(0, 3), Code.NONE);
        DUE.due("18 with a 2", x.most(0, 3), Code.NONE);
        DUE.due("17 nothing", x.least(7, 7), 0);
        DUE.due("18 nothing", x.most(2, 2), 0);
        // 8 empty windows, 3 within places 0 to 1 and 10 within places 3 to 6.
        DUE.due("19 windows", x.windows(), 21);
        // Empty 8; 0, 1 and 01 make 1 + 1 + 2; 0101 has 4 of one letter, 2 + 1 + 2 of two,
        // 2 + 2 of three and 4 of four.
        DUE.due("20 allWays", x.allWays(), 8 + 4 + 4 + 5 + 4 + 4);
        DUE.due("21 from 0", x.longest(0), 2);
        DUE.due("21 from 2", x.longest(2), 2);
        DUE.due("21 from 3", x.longest(3), 7);
        DUE.due("21 from 7", x.longest(7), 7);
        DUE.due("22 cover", x.cover(), 2 + 12 + 4);
    }

    private static void notWindows() {
        WeightedReader x = pairsOrLetters();
        Given.text(x, 0, 1, 0);
        int min = Integer.MIN_VALUE;
        int max = Integer.MAX_VALUE;
        int[][] bad = {{-1, 0}, {-1, -1}, {1, 0}, {3, 2}, {0, 4}, {3, 4}, {4, 4}, {0, 8}, {0, 9},
            {9, 9}, {0, -1}, {min, min}, {min, max}, {max, min}, {max, max}, {0, max}, {min, 0}};
        for (int[] w : bad) {
            String at = "(" + w[0] + ", " + w[1] + ")";
            DUE.due("16 ways" + at, x.ways(w[0], w[1]), 0);
            DUE.due("17 least" + at, x.least(w[0], w[1]), Code.BAD_ARG);
            DUE.due("18 most" + at, x.most(w[0], w[1]), Code.BAD_ARG);
        }
        DUE.due("16 the last window", x.ways(3, 3), 1);
        DUE.due("16 the whole text", x.ways(0, 3), 2);
    }

    /**
     * 16 loops over a body with 2 readings a letter read m letters in 2^m * 16^(m - 1) ways:
     * 2^36 for 8 letters, which is 0 as an int although there are readings.
     */
    private static void countsThatWrapToZero() {
        WeightedReader x = new WeightedReader();
        x.any(1);
        x.any(2);
        x.alt();
        for (int n = 0; n < 16; n++) {
            x.loop(0);
        }
        x.define();
        Given.text(x, 0, 1, 2, 0, 1, 2, 0, 1);
        DUE.due("16 wrapped to 0", x.ways(0, 8), 0);
        DUE.due("16 wrapped below 0", x.ways(1, 8), Integer.MIN_VALUE);
        DUE.due("16 not wrapped", x.ways(1, 7), 1 << 26);
        DUE.due("17 wrapped to 0", x.least(0, 8), 8);
        DUE.due("18 wrapped to 0", x.most(0, 8), 16);
        DUE.due("19 wrapped to 0", x.windows(), 45);
        DUE.due("20 wrapped", x.allWays(), 210055641);
        DUE.due("21 wrapped to 0", x.longest(0), 8);
        DUE.due("22 wrapped to 0", x.cover(), 8);
    }

    /**
     * 8 loops over a body with 4 readings a letter read m letters in 4^m * 8^(m - 1) ways: 2^32
     * for 7, 2^37 for 8. As an operand of seq and alt they are still there, at their costs.
     */
    private static void wrappedCountsAsOperands() {
        WeightedReader x = new WeightedReader();
        x.any(1);
        for (int n = 0; n < 3; n++) {
            x.any(2);
            x.alt();
        }
        for (int n = 0; n < 8; n++) {
            x.loop(1);
        }
        x.unit();
        x.seq();
        x.unit();
        x.alt();
        x.define();
        Given.text(x, 0, 0, 0, 0, 0, 0, 0, 0);
        DUE.due("16 operand, 8 letters", x.ways(0, 8), 0);
        DUE.due("16 operand, 7 letters", x.ways(0, 7), 0);
        DUE.due("16 operand, 6 letters", x.ways(0, 6), 1 << 27);
        DUE.due("16 operand, nothing", x.ways(0, 0), 2);
        // The innermost loop has 8 pieces, the 7 others may have one each, or 8 too.
        DUE.due("17 operand", x.least(0, 8), 8 + 8 + 7);
        DUE.due("18 operand", x.most(0, 8), 16 + 8 * 8);
        DUE.due("19 operand", x.windows(), 45);
        DUE.due("21 operand", x.longest(1), 8);
        DUE.due("22 operand", x.cover(), 23);
    }

    private static void nothingIsRead() {
        WeightedReader x = new WeightedReader();
        x.letter(2, 0);
        x.define();
        DUE.due("19 empty text", x.windows(), 0);
        DUE.due("20 empty text", x.allWays(), 0);
        DUE.due("17 empty text", x.least(0, 0), Code.NONE);
        DUE.due("18 empty text", x.most(0, 0), Code.NONE);
        DUE.due("21 empty text", x.longest(0), Code.NONE);
        DUE.due("22 empty text", x.cover(), 0);
        Given.text(x, 0, 1, 0);
        DUE.due("19 no such letter", x.windows(), 0);
        DUE.due("20 no such letter", x.allWays(), 0);
        DUE.due("22 no such letter", x.cover(), 36);
    }

    private static void longestMayBeEmptyOrAbsent() {
        WeightedReader x = new WeightedReader();
        x.letter(0, 1);
        x.letter(1, 1);
        x.seq();
        x.letter(0, 1);
        x.alt();
        x.define();
        Given.text(x, 0, 0, 1);
        DUE.due("21 one letter", x.longest(0), 1);
        DUE.due("21 the longer of two", x.longest(1), 3);
        DUE.due("21 none from here", x.longest(2), Code.NONE);
        DUE.due("21 none at the end", x.longest(3), Code.NONE);
        x.unit();
        x.define();
        DUE.due("21 only the empty window", x.longest(1), 1);
        DUE.due("21 the empty window at the end", x.longest(3), 3);
    }

    private static void longestRefuses() {
        WeightedReader x = pairsOrLetters();
        Given.text(x, 0, 1);
        int[] bad = {-1, 3, 8, 9, Integer.MIN_VALUE, Integer.MAX_VALUE};
        for (int i : bad) {
            DUE.due("21 longest(" + i + ")", x.longest(i), Code.BAD_ARG);
        }
        DUE.due("21 longest(2)", x.longest(2), 2);
    }

    private static void coverChoosesTheCheapest() {
        // 000 for 9 + 9 + 9, or letter by letter for 12 each: as one piece it is cheaper.
        WeightedReader x = new WeightedReader();
        for (int n = 0; n < 3; n++) {
            x.letter(0, 9);
        }
        x.seq();
        x.seq();
        x.define();
        Given.text(x, 0, 0, 0, 0);
        DUE.due("22 three of four", x.cover(), 27 + 12);
        x.put(1, 1);
        DUE.due("22 none of four", x.cover(), 48);

        // A reading dearer than 12 for one letter gives way to passing over.
        WeightedReader y = new WeightedReader();
        y.any(9);
        y.loop(9);
        y.define();
        Given.text(y, 0, 1);
        DUE.due("22 dear readings", y.cover(), 24);

        // The cheapest reading of a piece counts, not the dearest.
        WeightedReader z = new WeightedReader();
        z.any(7);
        z.any(2);
        z.alt();
        z.define();
        Given.text(z, 0, 1, 2);
        DUE.due("22 the cheapest reading", z.cover(), 6);

        // The longest piece first is not always best: 01 costs 18, 0 costs 1 and 12 costs 0.
        WeightedReader w = new WeightedReader();
        w.letter(0, 9);
        w.letter(1, 9);
        w.seq();
        w.letter(1, 0);
        w.letter(2, 0);
        w.seq();
        w.alt();
        w.letter(0, 1);
        w.alt();
        w.define();
        Given.text(w, 0, 1, 2);
        DUE.due("22 not the longest first", w.cover(), 1);
        w.put(2, 0);
        DUE.due("22 a letter passed over", w.cover(), 1 + 12 + 1);
        w.put(2, 1);
        DUE.due("22 two letters passed over", w.cover(), 1 + 12 + 12);

        // Passing over 12 exactly: 12 by a reading and 12 by passing are the same.
        WeightedReader v = new WeightedReader();
        v.any(9);
        v.loop(3);
        v.define();
        Given.text(v, 0, 0, 0, 0, 0, 0, 0, 0);
        DUE.due("22 either way", v.cover(), 96);
    }

    private static void coverHasNoEmptyPieces() {
        WeightedReader x = new WeightedReader();
        Given.text(x, 0, 1, 2, 0, 1, 2, 0, 1);
        DUE.due("22 unit covers nothing", x.cover(), 96);
    }

    private static void questionsChangeNothing() {
        WeightedReader x = pairsOrLetters();
        Given.text(x, 0, 1, 0);
        x.any(1);
        for (int n = 0; n < 3; n++) {
            DUE.due("16 again", x.ways(0, 3), 2);
            DUE.due("17 again", x.least(0, 3), 6);
            DUE.due("18 again", x.most(0, 3), 13);
            DUE.due("19 again", x.windows(), 10);
            DUE.due("20 again", x.allWays(), 4 + 3 + 3 + 2);
            DUE.due("21 again", x.longest(0), 3);
            DUE.due("22 again", x.cover(), 6);
        }
        DUE.due("9 still drafting", x.depth(), 1);
        DUE.due("15 still as long", x.length(), 3);
    }

    /** No answer leans on another question having been asked about the same text. */
    private static void eachQuestionMayComeFirst() {
        DUE.due("16 first", asking().ways(0, 2), 2);
        DUE.due("17 first", asking().least(0, 2), 2);
        DUE.due("18 first", asking().most(0, 2), 9);
        DUE.due("19 first", asking().windows(), 6);
        DUE.due("20 first", asking().allWays(), 3 + 2 + 2);
        DUE.due("21 first", asking().longest(0), 2);
        DUE.due("22 first", asking().cover(), 2);
    }

    private static WeightedReader asking() {
        WeightedReader x = pairsOrLetters();
        Given.text(x, 0, 1);
        return x;
    }

    private static void costsInAnyOrder() {
        int[][] orders = {{1, 5, 9}, {1, 9, 5}, {5, 1, 9}, {5, 9, 1}, {9, 1, 5}, {9, 5, 1}};
        for (int[] costs : orders) {
            WeightedReader x = new WeightedReader();
            x.any(costs[0]);
            x.any(costs[1]);
            x.alt();
            x.any(costs[2]);
            x.alt();
            x.define();
            x.type(0);
            DUE.due("17 in any order", x.least(0, 1), 1);
            DUE.due("18 in any order", x.most(0, 1), 9);
        }
        // The three cuts of 101 cost 9 + 6, 4 + 0 + 3 and 8 + 9: they first fall, then rise.
        WeightedReader y = new WeightedReader();
        y.any(4);
        y.loop(0);
        y.letter(0, 0);
        y.letter(1, 9);
        y.alt();
        y.seq();
        y.any(3);
        y.loop(0);
        y.seq();
        y.define();
        Given.text(y, 1, 0, 1);
        DUE.due("16 cuts", y.ways(0, 3), 3);
        DUE.due("17 cuts", y.least(0, 3), 4 + 0 + 3);
        DUE.due("18 cuts", y.most(0, 3), 4 + 4 + 9);
    }
}
