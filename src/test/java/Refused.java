import java.util.ArrayList;
import java.util.List;
import java.util.function.Function;
import java.util.function.Supplier;
import java.util.function.ToIntFunction;

/**
 * "A refused call answers the code named and changes nothing": the object that was called is
 * compared with one that was not, by what later calls show of the two.
 */
final class Refused {
    private static final int ONCE = 1;
    private static final int OFTEN = 12;

    private static final List<Function<WeightedReader, List<Integer>>> LATER_CALLS = List.of(
        Refused::askAll, Refused::joinByAlt, Refused::joinBySeq, Refused::pushUnits,
        Refused::pushLeaves, Refused::discardAndBuild, Refused::shiftAndType);

    private Refused() {
    }

    static void due(Due due, String call, Supplier<WeightedReader> given,
            ToIntFunction<WeightedReader> refused, int code) {
        due.due(call, refused.applyAsInt(given.get()), code);
        for (int later = 0; later < LATER_CALLS.size(); later++) {
            List<Integer> plain = LATER_CALLS.get(later).apply(given.get());
            for (int times : new int[] {ONCE, OFTEN}) {
                WeightedReader x = given.get();
                for (int n = 0; n < times; n++) {
                    due.due(call + " again", refused.applyAsInt(x), code);
                }
                List<Integer> shown = LATER_CALLS.get(later).apply(x);
                same(due, call + ", then run " + later + " of later calls", shown, plain);
            }
        }
    }

    private static void same(Due due, String call, List<Integer> shown, List<Integer> plain) {
        due.due(call + ", how many", shown.size(), plain.size());
        for (int n = 0; n < Math.min(shown.size(), plain.size()); n++) {
            due.due(call + ", number " + n, shown.get(n), plain.get(n));
        }
    }

    private static List<Integer> askAll(WeightedReader x) {
        List<Integer> shown = new ArrayList<>();
        int n = x.length();
        shown.addAll(List.of(x.steps(), x.depth(), n, x.windows(), x.allWays(), x.cover()));
        for (int i = 0; i <= n; i++) {
            shown.add(x.longest(i));
            for (int j = i; j <= n; j++) {
                shown.addAll(List.of(x.ways(i, j), x.least(i, j), x.most(i, j)));
            }
        }
        return shown;
    }

    private static List<Integer> joinByAlt(WeightedReader x) {
        return joinAndAsk(x, WeightedReader::alt);
    }

    private static List<Integer> joinBySeq(WeightedReader x) {
        return joinAndAsk(x, WeightedReader::seq);
    }

    private static List<Integer> joinAndAsk(WeightedReader x, ToIntFunction<WeightedReader> join) {
        List<Integer> shown = new ArrayList<>();
        for (int n = 0; n < 8; n++) {
            shown.add(join.applyAsInt(x));
        }
        shown.addAll(List.of(x.loop(2), x.define()));
        shown.addAll(askAll(x));
        return shown;
    }

    private static List<Integer> pushUnits(WeightedReader x) {
        List<Integer> shown = new ArrayList<>();
        for (int n = 0; n < 9; n++) {
            shown.add(x.unit());
        }
        for (int n = 0; n < 20; n++) {
            shown.add(x.loop(1));
        }
        shown.addAll(joinByAlt(x));
        return shown;
    }

    private static List<Integer> pushLeaves(WeightedReader x) {
        List<Integer> shown = new ArrayList<>();
        for (int n = 0; n < 11; n++) {
            shown.addAll(List.of(x.letter(n % 3, n % 10), x.alt()));
        }
        shown.addAll(joinByAlt(x));
        return shown;
    }

    private static List<Integer> discardAndBuild(WeightedReader x) {
        x.discard();
        List<Integer> shown = new ArrayList<>(List.of(x.steps(), x.depth()));
        for (int n = 0; n < 11; n++) {
            shown.addAll(List.of(x.any(n % 10), x.alt()));
        }
        shown.addAll(joinByAlt(x));
        return shown;
    }

    private static List<Integer> shiftAndType(WeightedReader x) {
        List<Integer> shown = new ArrayList<>();
        for (int n = 0; n < 9; n++) {
            shown.add(x.shift());
        }
        for (int n = 0; n < 9; n++) {
            shown.add(x.type(n % 3));
        }
        shown.addAll(askAll(x));
        return shown;
    }
}
