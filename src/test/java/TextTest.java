/** Promises 12 to 15: the text. */
public final class TextTest {
    private static final Due DUE = new Due("TextTest");

    public static void main(String[] args) {
        typeAppends();
        typeRefuses();
        putReplaces();
        putRefuses();
        shiftTakesTheFirst();
        lengthFollows();
        windowsFollowTheText();
        DUE.finish();
    }

    private static void typeAppends() {
        WeightedReader x = new WeightedReader();
        for (int n = 1; n <= 8; n++) {
            DUE.due("12 type number " + n, x.type(n % 3), n);
        }
        for (int n = 1; n <= 8; n++) {
            DUE.due("12 letter number " + n, x.shift(), n % 3);
        }
    }

    private static void typeRefuses() {
        WeightedReader x = new WeightedReader();
        for (int bad : Given.NOT_LETTERS) {
            DUE.due("12 type(" + bad + ")", x.type(bad), Code.BAD_ARG);
        }
        DUE.due("12 refused, length", x.length(), 0);
        for (int n = 0; n < 8; n++) {
            x.type(1);
        }
        DUE.due("12 full", x.type(0), Code.FULL);
        DUE.due("12 bad letter before full", x.type(3), Code.BAD_ARG);
        DUE.due("12 full, length", x.length(), 8);
        DUE.due("12 full, first letter", x.put(0, 1), 1);
        DUE.due("12 full, last letter", x.put(7, 1), 1);
        x.shift();
        DUE.due("12 room again", x.type(2), 8);
        DUE.due("12 typed at the end", x.put(7, 0), 2);
    }

    private static void putReplaces() {
        WeightedReader x = new WeightedReader();
        Given.text(x, 0, 1, 2);
        DUE.due("13 first", x.put(0, 2), 0);
        DUE.due("13 last", x.put(2, 0), 2);
        DUE.due("13 same letter", x.put(1, 1), 1);
        DUE.due("13 again", x.put(0, 1), 2);
        DUE.due("13 length", x.length(), 3);
        DUE.due("13 letter 0", x.shift(), 1);
        DUE.due("13 letter 1", x.shift(), 1);
        DUE.due("13 letter 2", x.shift(), 0);
    }

    private static void putRefuses() {
        WeightedReader x = new WeightedReader();
        DUE.due("13 empty text", x.put(0, 0), Code.BAD_ARG);
        Given.text(x, 0, 1);
        int[] notPlaces = {-1, 2, 3, 8, Integer.MIN_VALUE, Integer.MAX_VALUE};
        for (int bad : notPlaces) {
            DUE.due("13 put(" + bad + ", 0)", x.put(bad, 0), Code.BAD_ARG);
        }
        for (int bad : Given.NOT_LETTERS) {
            DUE.due("13 put(1, " + bad + ")", x.put(1, bad), Code.BAD_ARG);
        }
        DUE.due("13 both bad", x.put(2, 3), Code.BAD_ARG);
        DUE.due("13 refused, length", x.length(), 2);
        DUE.due("13 refused, letter 0", x.shift(), 0);
        DUE.due("13 refused, letter 1", x.shift(), 1);
        DUE.due("13 no place is left over", x.put(0, 0), Code.BAD_ARG);
        for (int n = 0; n < 8; n++) {
            x.type(2);
        }
        DUE.due("13 last place of a full text", x.put(7, 1), 2);
        DUE.due("13 behind a full text", x.put(8, 1), Code.BAD_ARG);
    }

    private static void shiftTakesTheFirst() {
        WeightedReader x = new WeightedReader();
        DUE.due("14 empty text", x.shift(), Code.NONE);
        DUE.due("14 empty text, length", x.length(), 0);
        Given.text(x, 2, 0, 1);
        DUE.due("14 first", x.shift(), 2);
        DUE.due("14 length", x.length(), 2);
        DUE.due("14 the rest moves up", x.put(0, 0), 0);
        DUE.due("14 type afterwards", x.type(2), 3);
        DUE.due("14 second", x.shift(), 0);
        DUE.due("14 third", x.shift(), 1);
        DUE.due("14 the one typed afterwards", x.shift(), 2);
        DUE.due("14 empty again", x.shift(), Code.NONE);
        DUE.due("14 type once more", x.type(1), 1);
    }

    private static void lengthFollows() {
        WeightedReader x = new WeightedReader();
        DUE.due("15 at first", x.length(), 0);
        x.type(1);
        DUE.due("15 after type", x.length(), 1);
        x.put(0, 2);
        DUE.due("15 after put", x.length(), 1);
        x.unit();
        x.define();
        x.discard();
        DUE.due("15 after define and discard", x.length(), 1);
        x.shift();
        DUE.due("15 after shift", x.length(), 0);
        x.shift();
        DUE.due("15 after a refused shift", x.length(), 0);
    }

    /** The answers are about the text as it stands, whatever was asked before. */
    private static void windowsFollowTheText() {
        WeightedReader x = new WeightedReader();
        x.letter(1, 3);
        x.define();
        Given.text(x, 0, 1);
        DUE.due("12 before", x.ways(1, 2), 1);
        x.type(1);
        DUE.due("12 the new letter is read", x.ways(2, 3), 1);
        x.put(1, 0);
        DUE.due("13 the old letter is not read", x.ways(1, 2), 0);
        DUE.due("13 nor has it a cost", x.least(1, 2), Code.NONE);
        x.shift();
        DUE.due("14 the window has moved", x.least(1, 2), 3);
        DUE.due("14 the old window is gone", x.least(2, 3), Code.BAD_ARG);
        DUE.due("14 the old window has no ways", x.ways(2, 3), 0);
    }
}
