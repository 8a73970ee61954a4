/** One object, used for at most 512 calls: the document leaves free what later calls answer, so no test asks them. */
final class Used {
    private static final int MOST_CALLS = 512;

    private final TapedLines object = new TapedLines();
    private int calls = 0;

    int callsLeft() {
        return MOST_CALLS - calls;
    }

    private TapedLines next() {
        calls++;
        if (calls > MOST_CALLS) {
            throw new AssertionError("the test's own object has had its " + MOST_CALLS + " calls");
        }
        return object;
    }

    boolean type(char c) {
        return next().type(c);
    }

    int wipe() {
        return next().wipe();
    }

    int enter() {
        return next().enter();
    }

    int lines() {
        return next().lines();
    }

    int list(int i) {
        return next().list(i);
    }

    int programByte(int i) {
        return next().programByte(i);
    }

    void start() {
        next().start();
    }

    int run(int n) {
        return next().run(n);
    }

    int state() {
        return next().state();
    }

    int place() {
        return next().place();
    }

    int variable(int k) {
        return next().variable(k);
    }

    int cell(int k) {
        return next().cell(k);
    }

    int output() {
        return next().output();
    }

    int save() {
        return next().save();
    }

    int load() {
        return next().load();
    }

    void wobble(int seed, int percent) {
        next().wobble(seed, percent);
    }

    int waves() {
        return next().waves();
    }

    int wave(int i) {
        return next().wave(i);
    }

    int setWave(int i, int length) {
        return next().setWave(i, length);
    }

    int length() {
        return next().length();
    }

    char charAt(int p) {
        return next().charAt(p);
    }
}
