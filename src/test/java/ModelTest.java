/**
 * Promises 1 to 22 over many runs of calls, each answer compared with the Model's. The runs are
 * made by a fixed sequence of numbers, so that they are the same every time.
 */
public final class ModelTest {
    private static final int RUNS = 200;
    private static final int CALLS = 512;
    private static final int MOST_AT_ONCE = 24;
    private static final int MOST_SHOWN = 20;

    private static final Due DUE = new Due("ModelTest");

    private static long state = 20261115L;
    private static int wrapped = 0;
    private static int run = 0;
    private static Both both;

    public static void main(String[] args) {
        for (run = 0; run < RUNS && DUE.wrong() < MOST_SHOWN; run++) {
            both = new Both(DUE, "run " + run);
            if (run % 8 == 0) {
                startWithManyReadings();
            }
            while (both.calls() + MOST_AT_ONCE <= CALLS) {
                oneStep();
            }
            while (both.calls() < CALLS) {
                ask();
            }
        }
        DUE.due("some runs have counts that wrap to 0", wrapped > 0 ? 1 : 0, 1);
        DUE.finish();
    }

    /** 2^36 readings of the whole text: chance alone hardly ever leads to a count of 0. */
    private static void startWithManyReadings() {
        both.any(1);
        both.any(4);
        both.alt();
        for (int n = 0; n < 16; n++) {
            both.loop(n % 3);
        }
        both.define();
        for (int n = 0; n < 8; n++) {
            both.type(n % 3);
        }
    }

    private static void oneStep() {
        int chance = below(100);
        if (chance < 45) {
            build(run % 4);
        } else if (chance < 60) {
            edit(run % 3);
        } else {
            ask();
        }
    }

    /** Some runs like loops, so that counts grow large. */
    private static void build(int taste) {
        int chance = below(100);
        int loops = taste == 0 ? 50 : 15;
        if (chance < loops) {
            both.loop(cost());
        } else if (chance < loops + 13) {
            both.letter(letter(), cost());
        } else if (chance < loops + 24) {
            both.any(cost());
        } else if (chance < loops + 28) {
            both.unit();
        } else if (chance < 97) {
            join(taste);
        } else {
            finish();
        }
        both.depth();
        if (both.steps() == 20 && below(4) == 0) {
            finish();
        }
    }

    /** Joins what is on the stack, if steps are left for it, and puts it to use. */
    private static void finish() {
        for (int n = both.model().depth(); n > 1; n--) {
            join(1);
        }
        if (both.define() != 0) {
            both.discard();
        }
    }

    private static void join(int taste) {
        if (taste == 0 || below(2) == 0) {
            both.alt();
        } else {
            both.seq();
        }
    }

    private static void edit(int taste) {
        int chance = below(10);
        int c = taste == 0 ? 1 : letter();
        if (chance < 6) {
            both.type(c);
        } else if (chance < 9) {
            both.put(place(), c);
        } else {
            both.shift();
        }
    }

    private static void ask() {
        int i = place();
        int j = below(3) == 0 ? both.model().length() : place();
        wrapped += both.model().wrapsToZero() ? 1 : 0;
        switch (below(9)) {
            case 0 -> both.ways(i, j);
            case 1 -> both.least(i, j);
            case 2 -> both.most(i, j);
            case 3 -> both.windows();
            case 4 -> both.allWays();
            case 5 -> both.longest(i);
            case 6 -> both.cover();
            case 7 -> both.length();
            default -> both.depth();
        }
    }

    private static int letter() {
        return below(40) == 0 ? wild() : below(3);
    }

    private static int cost() {
        return below(40) == 0 ? wild() : below(10);
    }

    private static int place() {
        if (below(40) == 0) {
            return wild();
        }
        return below(both.model().length() + 2) - (below(10) == 0 ? 1 : 0);
    }

    private static int wild() {
        int[] some = {-1, 3, 8, 9, 10, Integer.MIN_VALUE, Integer.MAX_VALUE};
        return some[below(some.length)];
    }

    private static int below(int bound) {
        state = state * 6364136223846793005L + 1442695040888963407L;
        return (int) ((state >>> 33) % bound);
    }
}
