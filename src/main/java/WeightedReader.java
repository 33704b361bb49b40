/**
 * A weighted, ambiguous regular expression read over the windows of a short text: how many
 * readings a window has, and what the cheapest and the dearest of them cost.
 */
public final class WeightedReader {
    public static final int BAD_ARG = -1;
    public static final int FULL = -2;
    public static final int BAD_STACK = -3;
    public static final int NONE = -4;

    private static final int MAX_LETTER = 2;
    private static final int MAX_COST = 9;
    private static final int MAX_STEPS = 20;
    private static final int MAX_DEPTH = 8;
    private static final int MAX_LEAVES = 10;
    private static final int MAX_TEXT = 8;
    private static final int PASS_COST = 12;

    /** A window's ends run from 0 to MAX_TEXT. */
    private static final int ENDS = MAX_TEXT + 1;
    private static final int CELLS = MAX_STEPS * ENDS * ENDS;

    private static final int LETTER = 0;
    private static final int ANY = 1;
    private static final int UNIT = 2;
    private static final int SEQ = 3;
    private static final int ALT = 4;
    private static final int LOOP = 5;

    // The draft: every accepted step since the stack was last emptied. Each step makes one
    // expression; the stack holds the numbers of the steps whose expressions lie on it.
    // An expression's operands are always of earlier steps.
    private final int[] draftKind = new int[MAX_STEPS];
    private final int[] draftLetter = new int[MAX_STEPS];
    private final int[] draftCost = new int[MAX_STEPS];
    private final int[] draftLeft = new int[MAX_STEPS];
    private final int[] draftRight = new int[MAX_STEPS];
    private final int[] stack = new int[MAX_DEPTH];
    private int draftSteps;
    private int draftLeaves;
    private int stacked;

    // The expression in use: its steps in the draft's form, the whole expression last.
    private final int[] usedKind = new int[MAX_STEPS];
    private final int[] usedLetter = new int[MAX_STEPS];
    private final int[] usedCost = new int[MAX_STEPS];
    private final int[] usedLeft = new int[MAX_STEPS];
    private final int[] usedRight = new int[MAX_STEPS];
    private int usedSteps;

    private final int[] text = new int[MAX_TEXT];
    private int textLength;

    // One cell for each step in use and each window. Whether a cell has a reading is told by
    // its cheapest cost (NONE if not), never by its count: a count may wrap around to 0.
    private final int[] count = new int[CELLS];
    private final int[] cheapest = new int[CELLS];
    private final int[] dearest = new int[CELLS];

    private final int[] coverCost = new int[ENDS];

    public WeightedReader() {
        usedKind[0] = UNIT;
        usedSteps = 1;
    }

    // ---- building an expression

    public int letter(int c, int w) {
        if (!isLetter(c) || !isCost(w)) {
            return BAD_ARG;
        }
        if (!hasRoomForLeaf()) {
            return FULL;
        }
        return pushLeaf(LETTER, c, w);
    }

    public int any(int w) {
        if (!isCost(w)) {
            return BAD_ARG;
        }
        if (!hasRoomForLeaf()) {
            return FULL;
        }
        return pushLeaf(ANY, 0, w);
    }

    public int unit() {
        if (!hasRoomToPush()) {
            return FULL;
        }
        addStep(UNIT, 0, 0, 0, 0);
        return push();
    }

    public int seq() {
        return joinTopTwo(SEQ);
    }

    public int alt() {
        return joinTopTwo(ALT);
    }

    public int loop(int p) {
        if (!isCost(p)) {
            return BAD_ARG;
        }
        if (draftSteps >= MAX_STEPS) {
            return FULL;
        }
        if (stacked < 1) {
            return BAD_STACK;
        }
        addStep(LOOP, 0, p, stack[stacked - 1], 0);
        stacked--;
        return push();
    }

    public int steps() {
        return draftSteps;
    }

    public int depth() {
        return stacked;
    }

    public void discard() {
        emptyDraft();
    }

    public int define() {
        if (stacked != 1) {
            return BAD_STACK;
        }
        for (int s = 0; s < draftSteps; s++) {
            usedKind[s] = draftKind[s];
            usedLetter[s] = draftLetter[s];
            usedCost[s] = draftCost[s];
            usedLeft[s] = draftLeft[s];
            usedRight[s] = draftRight[s];
        }
        usedSteps = draftSteps;
        emptyDraft();
        return 0;
    }

    // ---- the text

    public int type(int c) {
        if (!isLetter(c)) {
            return BAD_ARG;
        }
        if (textLength >= MAX_TEXT) {
            return FULL;
        }
        text[textLength] = c;
        textLength++;
        return textLength;
    }

    public int put(int i, int c) {
        if (i < 0 || i >= textLength || !isLetter(c)) {
            return BAD_ARG;
        }
        int before = text[i];
        text[i] = c;
        return before;
    }

    public int shift() {
        if (textLength < 1) {
            return NONE;
        }
        int first = text[0];
        for (int i = 1; i < textLength; i++) {
            text[i - 1] = text[i];
        }
        textLength--;
        return first;
    }

    public int length() {
        return textLength;
    }

    // ---- questions about the readings

    public int ways(int i, int j) {
        if (!isWindow(i, j)) {
            return 0;
        }
        readText();
        return count[answerCell(i, j)];
    }

    public int least(int i, int j) {
        if (!isWindow(i, j)) {
            return BAD_ARG;
        }
        readText();
        return cheapest[answerCell(i, j)];
    }

    public int most(int i, int j) {
        if (!isWindow(i, j)) {
            return BAD_ARG;
        }
        readText();
        return dearest[answerCell(i, j)];
    }

    public int windows() {
        readText();
        int found = 0;
        for (int i = 0; i <= textLength; i++) {
            for (int j = i; j <= textLength; j++) {
                if (cheapest[answerCell(i, j)] != NONE) {
                    found++;
                }
            }
        }
        return found;
    }

    public int allWays() {
        readText();
        int sum = 0;
        for (int i = 0; i <= textLength; i++) {
            for (int j = i; j <= textLength; j++) {
                sum += count[answerCell(i, j)];
            }
        }
        return sum;
    }

    public int longest(int i) {
        if (i < 0 || i > textLength) {
            return BAD_ARG;
        }
        readText();
        for (int j = textLength; j >= i; j--) {
            if (cheapest[answerCell(i, j)] != NONE) {
                return j;
            }
        }
        return NONE;
    }

    public int cover() {
        readText();
        coverCost[0] = 0;
        for (int j = 1; j <= textLength; j++) {
            coverCost[j] = cheapestCoverUpTo(j);
        }
        return coverCost[textLength];
    }

    // ---- what an argument may be

    private static boolean isLetter(int c) {
        return c >= 0 && c <= MAX_LETTER;
    }

    private static boolean isCost(int w) {
        return w >= 0 && w <= MAX_COST;
    }

    private boolean isWindow(int i, int j) {
        return i >= 0 && i <= j && j <= textLength;
    }

    // ---- the draft

    private boolean hasRoomToPush() {
        return draftSteps < MAX_STEPS && stacked < MAX_DEPTH;
    }

    private boolean hasRoomForLeaf() {
        return hasRoomToPush() && draftLeaves < MAX_LEAVES;
    }

    private int pushLeaf(int kind, int letter, int cost) {
        draftLeaves++;
        addStep(kind, letter, cost, 0, 0);
        return push();
    }

    private int joinTopTwo(int kind) {
        if (draftSteps >= MAX_STEPS) {
            return FULL;
        }
        if (stacked < 2) {
            return BAD_STACK;
        }
        addStep(kind, 0, 0, stack[stacked - 2], stack[stacked - 1]);
        stacked -= 2;
        return push();
    }

    private void addStep(int kind, int letter, int cost, int left, int right) {
        draftKind[draftSteps] = kind;
        draftLetter[draftSteps] = letter;
        draftCost[draftSteps] = cost;
        draftLeft[draftSteps] = left;
        draftRight[draftSteps] = right;
        draftSteps++;
    }

    /** Pushes the newest step's expression and answers how many the stack then holds. */
    private int push() {
        stack[stacked] = draftSteps - 1;
        stacked++;
        return stacked;
    }

    private void emptyDraft() {
        draftSteps = 0;
        draftLeaves = 0;
        stacked = 0;
    }

    // ---- reading the text

    private static int cellOf(int step, int i, int j) {
        return (step * ENDS + i) * ENDS + j;
    }

    private int answerCell(int i, int j) {
        return cellOf(usedSteps - 1, i, j);
    }

    /** Fills the cells of every step in use, operands before the steps that need them. */
    private void readText() {
        for (int s = 0; s < usedSteps; s++) {
            // From the last start backwards, because a loop's rest is read by the loop itself.
            for (int i = textLength; i >= 0; i--) {
                for (int j = i; j <= textLength; j++) {
                    readWindow(s, i, j);
                }
            }
        }
    }

    private void readWindow(int s, int i, int j) {
        int cell = cellOf(s, i, j);
        count[cell] = 0;
        cheapest[cell] = NONE;
        dearest[cell] = NONE;
        switch (usedKind[s]) {
            case LETTER:
                if (j == i + 1 && text[i] == usedLetter[s]) {
                    addReadings(cell, 1, usedCost[s], usedCost[s]);
                }
                break;
            case ANY:
                if (j == i + 1) {
                    addReadings(cell, 1, usedCost[s], usedCost[s]);
                }
                break;
            case UNIT:
                readEmpty(cell, i, j);
                break;
            case SEQ:
                readSeq(s, i, j);
                break;
            case ALT:
                readAlt(s, i, j);
                break;
            case LOOP:
                readEmpty(cell, i, j);
                readPieces(s, i, j);
                break;
            default:
                break;
        }
    }

    private void readEmpty(int cell, int i, int j) {
        if (i == j) {
            addReadings(cell, 1, 0, 0);
        }
    }

    private void readAlt(int s, int i, int j) {
        int cell = cellOf(s, i, j);
        int left = cellOf(usedLeft[s], i, j);
        int right = cellOf(usedRight[s], i, j);
        addCell(cell, left);
        addCell(cell, right);
    }

    private void readSeq(int s, int i, int j) {
        int cell = cellOf(s, i, j);
        for (int cut = i; cut <= j; cut++) {
            int first = cellOf(usedLeft[s], i, cut);
            int rest = cellOf(usedRight[s], cut, j);
            addPairs(cell, first, rest, 0);
        }
    }

    /** A loop over a window that is not empty: a first piece, then the loop over the rest. */
    private void readPieces(int s, int i, int j) {
        int cell = cellOf(s, i, j);
        for (int cut = i + 1; cut <= j; cut++) {
            int piece = cellOf(usedLeft[s], i, cut);
            int rest = cellOf(s, cut, j);
            addPairs(cell, piece, rest, usedCost[s]);
        }
    }

    private void addPairs(int cell, int first, int rest, int extra) {
        if (cheapest[first] != NONE && cheapest[rest] != NONE) {
            int low = cheapest[first] + cheapest[rest] + extra;
            int high = dearest[first] + dearest[rest] + extra;
            addReadings(cell, count[first] * count[rest], low, high);
        }
    }

    private void addCell(int cell, int from) {
        if (cheapest[from] != NONE) {
            addReadings(cell, count[from], cheapest[from], dearest[from]);
        }
    }

    private void addReadings(int cell, int more, int low, int high) {
        count[cell] += more;
        if (cheapest[cell] == NONE || low < cheapest[cell]) {
            cheapest[cell] = low;
        }
        if (dearest[cell] == NONE || high > dearest[cell]) {
            dearest[cell] = high;
        }
    }

    // ---- covering the text

    /** Needs coverCost for every place before j. */
    private int cheapestCoverUpTo(int j) {
        int best = coverCost[j - 1] + PASS_COST;
        for (int i = 0; i < j; i++) {
            int price = cheapest[answerCell(i, j)];
            if (price != NONE && coverCost[i] + price < best) {
                best = coverCost[i] + price;
            }
        }
        return best;
    }
}
