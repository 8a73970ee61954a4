/** Promises 17 wobble, 19 wave, 20 setWave. */
public final class WaveTest {
    private static final int[] SEEDS = {0, 1, -1, 7, 12345, 65535, 65536, Integer.MIN_VALUE, Integer.MAX_VALUE, 1103515245};

    private static final Due due = new Due();

    public static void main(String[] args) {
        wobbles();
        wobblesByHand();
        limits();
        refusesPercents();
        wobblesNothing();
        wave();
        refusesWaves();
        setsWaves();
        refusesToSetWaves();
        refusesLengths();
        due.end();
    }

    private static final String PROGRAM = "\u0001\u0009?\"wobble\"";

    private static Used saved() {
        Used x = Due.with("1 ?\"wobble\"");
        x.save();
        return x;
    }

    private static int[] savedLengths() {
        return Tapes.lengths(Tapes.tapeOfProgram(PROGRAM));
    }

    private static void lengthsAre(String what, Used x, int[] want) {
        due.same("how many, " + what, x.waves(), want.length);
        for (int k = 0; k < want.length; k++) {
            due.same("half-wave " + k + ", " + what, x.wave(k), want[k]);
        }
    }

    private static void wobbles() {
        due.sentence("Promise 17: wobble", "All half-waves get other lengths: with x = seed at first, for each x"
                + " becomes x * 1103515245 + 12345 (wrapping), and its length that times 100 - percent + (x >>> 16)"
                + " % (2 * percent + 1), divided by 100 (whole)");
        for (int seed : SEEDS) {
            for (int percent : new int[] {0, 1, 2, 25, 49, 50}) {
                Used x = saved();
                x.wobble(seed, percent);
                lengthsAre("by " + seed + ", " + percent, x, Tapes.wobbled(savedLengths(), seed, percent));
            }
        }
        Used often = saved();
        int[] want = savedLengths();
        for (int seed : SEEDS) {
            often.wobble(seed, 17);
            want = Tapes.wobbled(want, seed, 17);
        }
        lengthsAre("by one seed behind the other", often, want);
        Used none = saved();
        none.wobble(99, 0);
        lengthsAre("by 0", none, savedLengths());
    }

    private static void wobblesByHand() {
        due.sentence("Promise 17: wobble", "x becomes x * 1103515245 + 12345 (wrapping)");
        // x is 12345, whose upper half is 0: the length is 6 times 100 - 50 + 0 % 101, divided by 100.
        Used x = saved();
        x.wobble(0, 50);
        due.same("the first of seed 0", x.wave(0), 3);
        // x is 1103527590, its upper half 16838, which is 72 modulo 101.
        Used y = saved();
        y.wobble(1, 50);
        due.same("the first of seed 1", y.wave(0), 6 * (50 + 72) / 100);
        // x is -1103502900, its upper half 48697, which is 15 modulo 101: >>> makes no negative number.
        Used z = saved();
        z.wobble(-1, 50);
        due.same("the first of seed -1", z.wave(0), 6 * (50 + 15) / 100);
    }

    private static void limits() {
        due.sentence("Promise 17: wobble", "but at least 1 and at most 100");
        Used x = new Used();
        int[] want = new int[x.save()];
        for (int k = 0; k < want.length; k++) {
            want[k] = k % 2 == 0 ? 1 : 100;
            x.setWave(k, want[k]);
        }
        int least = 100;
        int most = 1;
        for (int seed : SEEDS) {
            x.wobble(seed, 50);
            want = Tapes.wobbled(want, seed, 50);
            for (int k = 0; k < 20; k++) {
                int length = x.wave(k);
                due.same("half-wave " + k + " by " + seed, length, want[k]);
                least = Math.min(least, length);
                most = Math.max(most, length);
            }
        }
        due.same("the least", least, 1);
        due.same("the most", most, 100);
        Used y = saved();
        y.setWave(0, 1);
        y.wobble(0, 50);
        due.same("half of 1 is 1", y.wave(0), 1);
        Used z = saved();
        z.setWave(0, 100);
        z.wobble(1, 50);
        due.same("122 for 100 of 100 is 100", z.wave(0), 100);
    }

    private static void refusesPercents() {
        due.sentence("Promise 17: wobble", "IllegalArgument: percent is not 0 .. 50.");
        Used x = saved();
        Used empty = new Used();
        for (int percent : new int[] {-1, -2, 51, 52, 100, Integer.MIN_VALUE, Integer.MAX_VALUE}) {
            due.throwsThat("wobble by " + percent, IllegalArgumentException.class, () -> x.wobble(1, percent));
            due.throwsThat("with an empty tape by " + percent, IllegalArgumentException.class, () -> empty.wobble(1, percent));
        }
        lengthsAre("when refused", x, savedLengths());
        due.throwsThat("by 0", null, () -> x.wobble(1, 0));
        due.throwsThat("by 50", null, () -> x.wobble(1, 50));
    }

    private static void wobblesNothing() {
        due.sentence("Promise 1: A new object", "an empty tape");
        Used x = new Used();
        x.wobble(1, 50);
        due.same("waves", x.waves(), 0);
        x.save();
        due.same("no wobble is kept for a later tape", x.wave(0) + x.wave(40), 18);
    }

    private static void wave() {
        due.sentence("Promise 19: wave", "The length of a half-wave.");
        Used x = new Used();
        x.save();
        String row = Tapes.tapeOf(0, 0, 0);
        for (int k = 0; k < 106; k++) {
            due.same("half-wave " + k, x.wave(k), row.charAt(k) == 'L' ? 12 : 6);
        }
    }

    private static void refusesWaves() {
        due.sentence("Promise 19: wave", "IndexOutOfBounds: there is none such.");
        Used empty = new Used();
        Used x = new Used();
        x.save();
        due.same("the first", x.wave(0), 6);
        due.same("the last", x.wave(105), 6);
        for (int i : new int[] {106, 107, 7753, 7754, -1, -106, Integer.MIN_VALUE, Integer.MAX_VALUE}) {
            due.throwsThat("wave " + i, IndexOutOfBoundsException.class, () -> x.wave(i));
            due.throwsThat("of an empty tape, wave " + i, IndexOutOfBoundsException.class, () -> empty.wave(i));
        }
        due.throwsThat("of an empty tape, wave 0", IndexOutOfBoundsException.class, () -> empty.wave(0));
    }

    private static void setsWaves() {
        due.sentence("Promise 20: setWave", "A half-wave gets another length: what it was.");
        Used x = new Used();
        x.save();
        for (int k : new int[] {0, 40, 105}) {
            int was = x.wave(k);
            for (int length : new int[] {1, 2, 8, 9, 12, 99, 100}) {
                due.same("what " + k + " was", x.setWave(k, length), was);
                due.same("what " + k + " is", x.wave(k), length);
                was = length;
            }
        }
        due.same("its neighbours stay", x.wave(1) + x.wave(39) + x.wave(41) + x.wave(104), 6 + 6 + 12 + 6);
        due.same("as many as before", x.waves(), 106);
    }

    private static void refusesToSetWaves() {
        due.sentence("Promise 20: setWave", "IndexOutOfBounds: there is none such.");
        Used empty = new Used();
        Used x = new Used();
        x.save();
        for (int i : new int[] {106, 107, 7753, 7754, -1, Integer.MIN_VALUE, Integer.MAX_VALUE}) {
            due.throwsThat("setWave " + i, IndexOutOfBoundsException.class, () -> x.setWave(i, 5));
            due.throwsThat("of an empty tape, setWave " + i, IndexOutOfBoundsException.class, () -> empty.setWave(i, 5));
        }
        due.throwsThat("of an empty tape, setWave 0", IndexOutOfBoundsException.class, () -> empty.setWave(0, 5));
        due.same("waves", x.waves() + empty.waves(), 106);
    }

    private static void refusesLengths() {
        due.sentence("Promise 20: setWave", "IllegalArgument: length is not 1 .. 100.");
        Used x = new Used();
        x.save();
        for (int length : new int[] {0, -1, 101, 102, 257, Integer.MIN_VALUE, Integer.MAX_VALUE}) {
            due.throwsThat("length " + length, IllegalArgumentException.class, () -> x.setWave(0, length));
            due.throwsThat("length " + length, IllegalArgumentException.class, () -> x.setWave(105, length));
        }
        due.same("nothing changed", x.wave(0) + x.wave(105), 12);
        due.same("length 1", x.setWave(0, 1), 6);
        due.same("length 100", x.setWave(0, 100), 1);
    }
}
