/** A WeightedReader and a Model, called in step: what the Model answers is due of the other. */
final class Both {
    private final WeightedReader x = new WeightedReader();
    private final Model m = new Model();
    private final Due due;
    private final String run;
    private int calls = 0;

    Both(Due due, String run) {
        this.due = due;
        this.run = run;
    }

    /** The Model, to look at without a call: questions to it do not count. */
    Model model() {
        return m;
    }

    int calls() {
        return calls;
    }

    int letter(int c, int w) {
        return same("letter(" + c + ", " + w + ")", x.letter(c, w), m.letter(c, w));
    }

    int any(int w) {
        return same("any(" + w + ")", x.any(w), m.any(w));
    }

    int unit() {
        return same("unit()", x.unit(), m.unit());
    }

    int seq() {
        return same("seq()", x.seq(), m.seq());
    }

    int alt() {
        return same("alt()", x.alt(), m.alt());
    }

    int loop(int p) {
        return same("loop(" + p + ")", x.loop(p), m.loop(p));
    }

    int steps() {
        return same("steps()", x.steps(), m.steps());
    }

    int depth() {
        return same("depth()", x.depth(), m.depth());
    }

    void discard() {
        calls++;
        x.discard();
        m.discard();
    }

    int define() {
        return same("define()", x.define(), m.define());
    }

    int type(int c) {
        return same("type(" + c + ")", x.type(c), m.type(c));
    }

    int put(int i, int c) {
        return same("put(" + i + ", " + c + ")", x.put(i, c), m.put(i, c));
    }

    int shift() {
        return same("shift()", x.shift(), m.shift());
    }

    int length() {
        return same("length()", x.length(), m.length());
    }

    int ways(int i, int j) {
        return same("ways(" + i + ", " + j + ")", x.ways(i, j), m.ways(i, j));
    }

    int least(int i, int j) {
        return same("least(" + i + ", " + j + ")", x.least(i, j), m.least(i, j));
    }

    int most(int i, int j) {
        return same("most(" + i + ", " + j + ")", x.most(i, j), m.most(i, j));
    }

    int windows() {
        return same("windows()", x.windows(), m.windows());
    }

    int allWays() {
        return same("allWays()", x.allWays(), m.allWays());
    }

    int longest(int i) {
        return same("longest(" + i + ")", x.longest(i), m.longest(i));
    }

    int cover() {
        return same("cover()", x.cover(), m.cover());
    }

    private int same(String call, int got, int want) {
        calls++;
        due.due(run + ": call " + calls + ", " + call, got, want);
        return want;
    }
}
