import java.math.BigInteger;
import java.util.ArrayDeque;
import java.util.ArrayList;
import java.util.Deque;
import java.util.HashMap;
import java.util.List;
import java.util.Map;
import java.util.TreeMap;

/**
 * The document's terms, word for word and slow, to compare WeightedReader with: expressions are
 * trees, words are strings, a word's readings are kept as a number for each cost (never wrapped),
 * and every cut into pieces is gone through one by one.
 */
final class Model {
    private abstract static class Expression {
        private final Map<String, TreeMap<Integer, BigInteger>> known = new HashMap<>();

        abstract TreeMap<Integer, BigInteger> find(String u);

        final TreeMap<Integer, BigInteger> readings(String u) {
            TreeMap<Integer, BigInteger> found = known.get(u);
            if (found == null) {
                found = find(u);
                known.put(u, found);
            }
            return found;
        }
    }

    private static final class One extends Expression {
        private final String letters;
        private final int cost;

        One(String letters, int cost) {
            this.letters = letters;
            this.cost = cost;
        }

        @Override
        TreeMap<Integer, BigInteger> find(String u) {
            return u.length() == 1 && letters.contains(u) ? single(cost) : new TreeMap<>();
        }
    }

    private static final class Unit extends Expression {
        @Override
        TreeMap<Integer, BigInteger> find(String u) {
            return u.isEmpty() ? single(0) : new TreeMap<>();
        }
    }

    private static final class Seq extends Expression {
        private final Expression x;
        private final Expression y;

        Seq(Expression x, Expression y) {
            this.x = x;
            this.y = y;
        }

        @Override
        TreeMap<Integer, BigInteger> find(String u) {
            TreeMap<Integer, BigInteger> all = new TreeMap<>();
            for (int cut = 0; cut <= u.length(); cut++) {
                addAll(all, product(x.readings(u.substring(0, cut)), y.readings(u.substring(cut))));
            }
            return all;
        }
    }

    private static final class Alt extends Expression {
        private final Expression x;
        private final Expression y;

        Alt(Expression x, Expression y) {
            this.x = x;
            this.y = y;
        }

        @Override
        TreeMap<Integer, BigInteger> find(String u) {
            TreeMap<Integer, BigInteger> all = new TreeMap<>(x.readings(u));
            addAll(all, y.readings(u));
            return all;
        }
    }

    private static final class Loop extends Expression {
        private final int p;
        private final Expression x;

        Loop(int p, Expression x) {
            this.p = p;
            this.x = x;
        }

        @Override
        TreeMap<Integer, BigInteger> find(String u) {
            if (u.isEmpty()) {
                return single(0);
            }
            TreeMap<Integer, BigInteger> all = new TreeMap<>();
            for (List<String> pieces : cuts(u)) {
                TreeMap<Integer, BigInteger> some = single(p * pieces.size());
                for (String piece : pieces) {
                    some = product(some, x.readings(piece));
                }
                addAll(all, some);
            }
            return all;
        }
    }

    private final Deque<Expression> stack = new ArrayDeque<>();
    private Expression used = new Unit();
    private int steps = 0;
    private int leaves = 0;
    private String text = "";

    int letter(int c, int w) {
        return c < 0 || c > 2 ? Code.BAD_ARG : leaf(String.valueOf(c), w);
    }

    int any(int w) {
        return leaf("012", w);
    }

    int unit() {
        if (steps == 20 || stack.size() == 8) {
            return Code.FULL;
        }
        return pushed(new Unit());
    }

    int seq() {
        return join(false);
    }

    int alt() {
        return join(true);
    }

    int loop(int p) {
        if (p < 0 || p > 9) {
            return Code.BAD_ARG;
        }
        if (steps == 20) {
            return Code.FULL;
        }
        if (stack.isEmpty()) {
            return Code.BAD_STACK;
        }
        return pushed(new Loop(p, stack.pop()));
    }

    int steps() {
        return steps;
    }

    int depth() {
        return stack.size();
    }

    void discard() {
        stack.clear();
        steps = 0;
        leaves = 0;
    }

    int define() {
        if (stack.size() != 1) {
            return Code.BAD_STACK;
        }
        used = stack.peek();
        discard();
        return 0;
    }

    int type(int c) {
        if (c < 0 || c > 2) {
            return Code.BAD_ARG;
        }
        if (text.length() == 8) {
            return Code.FULL;
        }
        text += c;
        return text.length();
    }

    int put(int i, int c) {
        if (i < 0 || i >= text.length() || c < 0 || c > 2) {
            return Code.BAD_ARG;
        }
        int before = text.charAt(i) - '0';
        text = text.substring(0, i) + c + text.substring(i + 1);
        return before;
    }

    int shift() {
        if (text.isEmpty()) {
            return Code.NONE;
        }
        int first = text.charAt(0) - '0';
        text = text.substring(1);
        return first;
    }

    int length() {
        return text.length();
    }

    int ways(int i, int j) {
        return isWindow(i, j) ? total(i, j).intValue() : 0;
    }

    int least(int i, int j) {
        if (!isWindow(i, j)) {
            return Code.BAD_ARG;
        }
        return isRead(i, j) ? window(i, j).firstKey() : Code.NONE;
    }

    int most(int i, int j) {
        if (!isWindow(i, j)) {
            return Code.BAD_ARG;
        }
        return isRead(i, j) ? window(i, j).lastKey() : Code.NONE;
    }

    int windows() {
        int found = 0;
        for (int i = 0; i <= text.length(); i++) {
            for (int j = i; j <= text.length(); j++) {
                found += isRead(i, j) ? 1 : 0;
            }
        }
        return found;
    }

    int allWays() {
        BigInteger sum = BigInteger.ZERO;
        for (int i = 0; i <= text.length(); i++) {
            for (int j = i; j <= text.length(); j++) {
                sum = sum.add(total(i, j));
            }
        }
        return sum.intValue();
    }

    int longest(int i) {
        if (i < 0 || i > text.length()) {
            return Code.BAD_ARG;
        }
        int found = Code.NONE;
        for (int j = i; j <= text.length(); j++) {
            found = isRead(i, j) ? j : found;
        }
        return found;
    }

    int cover() {
        if (text.isEmpty()) {
            return 0;
        }
        int best = Integer.MAX_VALUE;
        for (List<String> pieces : cuts(text)) {
            best = Math.min(best, coverCost(pieces));
        }
        return best;
    }

    /** Whether there are readings of the whole text, but 0 of them modulo 2 to the power 32. */
    boolean wrapsToZero() {
        BigInteger all = total(0, text.length());
        return all.signum() > 0 && all.intValue() == 0;
    }

    private int coverCost(List<String> pieces) {
        int sum = 0;
        for (String piece : pieces) {
            TreeMap<Integer, BigInteger> some = used.readings(piece);
            int best = piece.length() == 1 ? 12 : Integer.MAX_VALUE;
            if (!some.isEmpty()) {
                best = Math.min(best, some.firstKey());
            }
            if (best == Integer.MAX_VALUE) {
                return best;
            }
            sum += best;
        }
        return sum;
    }

    private int leaf(String letters, int w) {
        if (w < 0 || w > 9) {
            return Code.BAD_ARG;
        }
        if (steps == 20 || stack.size() == 8 || leaves == 10) {
            return Code.FULL;
        }
        leaves++;
        return pushed(new One(letters, w));
    }

    private int join(boolean isAlt) {
        if (steps == 20) {
            return Code.FULL;
        }
        if (stack.size() < 2) {
            return Code.BAD_STACK;
        }
        Expression y = stack.pop();
        Expression x = stack.pop();
        return pushed(isAlt ? new Alt(x, y) : new Seq(x, y));
    }

    private int pushed(Expression made) {
        stack.push(made);
        steps++;
        return stack.size();
    }

    private boolean isWindow(int i, int j) {
        return 0 <= i && i <= j && j <= text.length();
    }

    private TreeMap<Integer, BigInteger> window(int i, int j) {
        return used.readings(text.substring(i, j));
    }

    private boolean isRead(int i, int j) {
        return !window(i, j).isEmpty();
    }

    private BigInteger total(int i, int j) {
        return window(i, j).values().stream().reduce(BigInteger.ZERO, BigInteger::add);
    }

    private static TreeMap<Integer, BigInteger> single(int cost) {
        TreeMap<Integer, BigInteger> one = new TreeMap<>();
        one.put(cost, BigInteger.ONE);
        return one;
    }

    private static void addAll(TreeMap<Integer, BigInteger> all, Map<Integer, BigInteger> more) {
        more.forEach((cost, number) -> all.merge(cost, number, BigInteger::add));
    }

    private static TreeMap<Integer, BigInteger> product(
            Map<Integer, BigInteger> some, Map<Integer, BigInteger> others) {
        TreeMap<Integer, BigInteger> all = new TreeMap<>();
        some.forEach((a, m) -> others.forEach((b, n) ->
                all.merge(a + b, m.multiply(n), BigInteger::add)));
        return all;
    }

    /** Every cut of u, which is not empty, into one or more pieces that are not empty. */
    private static List<List<String>> cuts(String u) {
        List<List<String>> all = new ArrayList<>();
        for (int marks = 0; marks < 1 << (u.length() - 1); marks++) {
            List<String> pieces = new ArrayList<>();
            int start = 0;
            for (int end = 1; end <= u.length(); end++) {
                if (end == u.length() || (marks >> (end - 1) & 1) == 1) {
                    pieces.add(u.substring(start, end));
                    start = end;
                }
            }
            all.add(pieces);
        }
        return all;
    }
}
