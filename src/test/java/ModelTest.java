/**
 * Promises 1 to 22 over many runs of calls, each answer compared with the Model's. The runs are
 * made by a fixed sequence of numbers, so that they are the same every time.
 */
public final class ModelTest {
    private static final int RUNS = 200;
    private static final int CALLS = 512;
    private static final int MOST_AT_ONCE = 24;
    private static final int MOST_SHOWN = 20;

    private static final Due DUE = new Due("ModelTest");

    private static long state = 20261115L;
    private static int wrapped = 0;
    private static int run = 0;
    private static int calls = 0;
    private static WeightedReader x;
    private static Model m;

    public static void main(String[] args) {
        for (run = 0; run < RUNS && DUE.wrong() < MOST_SHOWN; run++) {
            x = new WeightedReader();
            m = new Model();
            calls = 0;
            if (run % 8 == 0) {
                startWithManyReadings();
            }
            while (calls + MOST_AT_ONCE <= CALLS) {
                oneStep();
            }
        }
        DUE.due("some runs have counts that wrap to 0", wrapped > 0 ? 1 : 0, 1);
        DUE.finish();
    }

    /** 2^36 readings of the whole text: chance alone hardly ever leads to a count of 0. */
    private static void startWithManyReadings() {
        due("any(1)", x.any(1), m.any(1));
        due("any(4)", x.any(4), m.any(4));
        due("alt", x.alt(), m.alt());
        for (int n = 0; n < 16; n++) {
            due("loop(" + n % 3 + ")", x.loop(n % 3), m.loop(n % 3));
        }
        due("define", x.define(), m.define());
        for (int n = 0; n < 8; n++) {
            due("type(" + n % 3 + ")", x.type(n % 3), m.type(n % 3));
        }
    }

    private static void oneStep() {
        int chance = below(100);
        if (chance < 45) {
            build(run % 4);
        } else if (chance < 60) {
            edit(run % 3);
        } else {
            ask();
        }
    }

    /** Some runs like loops, so that counts grow large. */
    private static void build(int taste) {
        int chance = below(100);
        int loops = taste == 0 ? 50 : 15;
        if (chance < loops) {
            int p = cost();
            due("loop(" + p + ")", x.loop(p), m.loop(p));
        } else if (chance < loops + 13) {
            int c = letter();
            int w = cost();
            due("letter(" + c + ", " + w + ")", x.letter(c, w), m.letter(c, w));
        } else if (chance < loops + 24) {
            int w = cost();
            due("any(" + w + ")", x.any(w), m.any(w));
        } else if (chance < loops + 28) {
            due("unit", x.unit(), m.unit());
        } else if (chance < 97) {
            join(taste);
        } else {
            finish();
        }
        due("steps", x.steps(), m.steps());
        due("depth", x.depth(), m.depth());
        if (m.steps() == 20 && below(4) == 0) {
            finish();
        }
    }

    /** Joins what is on the stack, if steps are left for it, and puts it to use. */
    private static void finish() {
        for (int n = m.depth(); n > 1; n--) {
            join(1);
        }
        int answer = m.define();
        due("define", x.define(), answer);
        if (answer != 0) {
            x.discard();
            m.discard();
            calls++;
        }
    }

    private static void join(int taste) {
        if (taste == 0 || below(2) == 0) {
            due("alt", x.alt(), m.alt());
        } else {
            due("seq", x.seq(), m.seq());
        }
    }

    private static void edit(int taste) {
        int chance = below(10);
        int c = taste == 0 ? 1 : letter();
        if (chance < 6) {
            due("type(" + c + ")", x.type(c), m.type(c));
        } else if (chance < 9) {
            int i = place();
            due("put(" + i + ", " + c + ")", x.put(i, c), m.put(i, c));
        } else {
            due("shift", x.shift(), m.shift());
        }
    }

    private static void ask() {
        int i = place();
        int j = below(3) == 0 ? m.length() : place();
        String at = "(" + i + ", " + j + ")";
        wrapped += m.wrapsToZero() ? 1 : 0;
        switch (below(8)) {
            case 0 -> due("ways" + at, x.ways(i, j), m.ways(i, j));
            case 1 -> due("least" + at, x.least(i, j), m.least(i, j));
            case 2 -> due("most" + at, x.most(i, j), m.most(i, j));
            case 3 -> due("windows", x.windows(), m.windows());
            case 4 -> due("allWays", x.allWays(), m.allWays());
            case 5 -> due("longest(" + i + ")", x.longest(i), m.longest(i));
            case 6 -> due("cover", x.cover(), m.cover());
            default -> {
                due("length", x.length(), m.length());
                due("depth", x.depth(), m.depth());
            }
        }
    }

    private static void due(String call, int got, int want) {
        calls++;
        DUE.due("run " + run + ": " + call, got, want);
    }

    private static int letter() {
        return below(40) == 0 ? wild() : below(3);
    }

    private static int cost() {
        return below(40) == 0 ? wild() : below(10);
    }

    private static int place() {
        return below(40) == 0 ? wild() : below(m.length() + 2) - (below(10) == 0 ? 1 : 0);
    }

    private static int wild() {
        int[] some = {-1, 3, 8, 9, 10, Integer.MIN_VALUE, Integer.MAX_VALUE};
        return some[below(some.length)];
    }

    private static int below(int bound) {
        state = state * 6364136223846793005L + 1442695040888963407L;
        return (int) ((state >>> 33) % bound);
    }
}
