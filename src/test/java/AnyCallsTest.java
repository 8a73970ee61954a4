import java.util.Random;

/** Any calls with any arguments in any state: nothing is thrown but what is due, and what throws changes nothing. */
public final class AnyCallsTest {
    private static final int[] ODD = {Integer.MIN_VALUE, -100000, -1, 0, 1, 2, 7, 8, 15, 16, 40, 50, 51, 100, 101, 105, 106,
        1000, 1001, 7754, 65536, Integer.MAX_VALUE};
    // A line of more characters than the text has room for is the dearest.
    private static final int MOST_OF_ONE = 150;
    private static final Random random = new Random(77);
    private static final Due due = new Due();
    private static final TapedLines LONG_TAPE = longTape();

    public static void main(String[] args) {
        for (int k = 0; k < 3000; k++) {
            Used x = new Used();
            while (x.callsLeft() > MOST_OF_ONE) {
                anyCall(x);
            }
        }
        for (int size = 0; size <= 255; size++) {
            int[] ofOneKind = new int[size];
            for (int value : new int[] {0, 255, ' ', '~', '-', 130}) {
                java.util.Arrays.fill(ofOneKind, value);
                loadsOf(ofOneKind.clone());
                if (size > 2) {
                    ofOneKind[0] = 7;
                    ofOneKind[1] = size - 2;
                    loadsOf(ofOneKind.clone());
                }
            }
        }
        due.end();
    }

    /**
     * A tape with any bytes takes more than 512 calls to make. What these answer is free, but rule 7 of LANGUAGE.md
     * holds in any state: nothing is thrown.
     */
    private static void loadsOf(int[] program) {
        String row = Tapes.tapeOf(Tapes.summed(program));
        for (int k = 0; k < row.length() && k < LONG_TAPE.waves(); k++) {
            LONG_TAPE.setWave(k, row.charAt(k) == 'L' ? 12 : 6);
        }
        due.throwsThat("load of " + program.length + " bytes", null, LONG_TAPE::load);
        due.throwsThat("start", null, LONG_TAPE::start);
        due.throwsThat("state", null, LONG_TAPE::state);
    }

    private static TapedLines longTape() {
        TapedLines x = new TapedLines();
        for (int line = 1; line <= 4; line++) {
            for (char c : (line + Due.ROW_OF_45.replace('x', '~')).toCharArray()) {
                x.type(c);
            }
            x.enter();
        }
        x.save();
        return x;
    }

    private static int any() {
        return random.nextInt(3) == 0 ? ODD[random.nextInt(ODD.length)] : random.nextInt(140) - 5;
    }

    private static void anyCall(Used x) {
        int a = any();
        int b = any();
        switch (random.nextInt(14)) {
            case 0:
                due.throwsThat("type", null, () -> x.type((char) a));
                break;
            case 1:
            case 2:
            case 3:
                String line = Maker.spaced(random, Maker.line(random));
                due.throwsThat("enter", null, () -> Due.enter(x, line));
                break;
            case 4:
                due.throwsThat("start", null, x::start);
                break;
            case 5:
            case 6:
                boolean counted = a >= 1 && a <= 1000;
                Class<?> stopped = x.state() == TapedLines.RUNNING ? null : IllegalStateException.class;
                due.throwsThat("run " + a, counted ? stopped : IllegalArgumentException.class, () -> x.run(a));
                break;
            case 7:
                due.throwsThat("save", null, x::save);
                break;
            case 8:
                due.throwsThat("load", null, x::load);
                break;
            case 9:
                boolean percent = b >= 0 && b <= 50;
                due.throwsThat("wobble " + b, percent ? null : IllegalArgumentException.class, () -> x.wobble(a, b));
                break;
            case 10:
                boolean there = a >= 0 && a < x.waves();
                Class<?> size = b >= 1 && b <= 100 ? null : IllegalArgumentException.class;
                due.throwsThat("setWave " + a + " " + b, there ? size : IndexOutOfBoundsException.class,
                        () -> x.setWave(a, b));
                break;
            case 11:
                due.throwsThat("wipe", null, x::wipe);
                break;
            default:
                questions(x, a);
                break;
        }
    }

    private static void index(String what, int i, int size, Runnable call) {
        due.throwsThat(what + " " + i, i >= 0 && i < size ? null : IndexOutOfBoundsException.class, call);
    }

    private static void questions(Used x, int a) {
        index("list", a, x.lines(), () -> x.list(a));
        index("programByte", a, countBytes(x), () -> x.programByte(a));
        index("variable", a, 8, () -> x.variable(a));
        index("cell", a, 16, () -> x.cell(a));
        index("wave", a, x.waves(), () -> x.wave(a));
        due.throwsThat("charAt", null, () -> x.charAt(a));
        due.throwsThat("output", null, x::output);
        String before = some(x);
        due.throwsThat("run(0)", IllegalArgumentException.class, () -> x.run(0));
        due.throwsThat("wobble(1, 51)", IllegalArgumentException.class, () -> x.wobble(1, 51));
        due.throwsThat("setWave(-1, 5)", IndexOutOfBoundsException.class, () -> x.setWave(-1, 5));
        due.throwsThat("list(-1)", IndexOutOfBoundsException.class, () -> x.list(-1));
        due.same("all else", some(x), before);
    }

    private static String some(Used x) {
        return x.state() + " " + x.place() + " " + x.lines() + " " + x.waves() + " " + x.length();
    }

    /** Halves what is left again and again: to ask for each byte would take too many calls. */
    private static int countBytes(Used x) {
        int there = 0;
        int behind = 201;
        while (behind - there > 0) {
            int middle = (there + behind) / 2;
            if (hasByte(x, middle)) {
                there = middle + 1;
            } else {
                behind = middle;
            }
        }
        return there;
    }

    private static boolean hasByte(Used x, int i) {
        try {
            x.programByte(i);
            return true;
        } catch (IndexOutOfBoundsException e) {
            return false;
        }
    }
}
