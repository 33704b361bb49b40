/** The document's codes, written out, so that a test does not take them from the class it tests. */
final class Code {
    static final int BAD_ARG = -1;
    static final int FULL = -2;
    static final int BAD_STACK = -3;
    static final int NONE = -4;

    private Code() {
    }
}
