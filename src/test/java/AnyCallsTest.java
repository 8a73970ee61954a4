import java.util.Random;

/** Any calls with any arguments in any state: nothing is thrown but what is due, and what throws changes nothing. */
public final class AnyCallsTest {
    private static final int[] ODD = {Integer.MIN_VALUE, -100000, -1, 0, 1, 2, 7, 8, 15, 16, 40, 50, 51, 100, 101, 105, 106,
        1000, 1001, 7754, 65536, Integer.MAX_VALUE};
    private static final Random random = new Random(77);
    private static final Due due = new Due();

    public static void main(String[] args) {
        for (int k = 0; k < 600; k++) {
            TapedLines x = new TapedLines();
            for (int j = 0; j < 200; j++) {
                anyCall(x);
            }
        }
        due.end();
    }

    private static int any() {
        return random.nextInt(3) == 0 ? ODD[random.nextInt(ODD.length)] : random.nextInt(140) - 5;
    }

    private static void anyCall(TapedLines x) {
        int a = any();
        int b = any();
        switch (random.nextInt(14)) {
            case 0:
                due.throwsThat("type", null, () -> x.type((char) a));
                break;
            case 1:
            case 2:
            case 3:
                String line = Maker.spaced(random, Maker.line(random));
                due.throwsThat("enter", null, () -> Due.enter(x, line));
                break;
            case 4:
                due.throwsThat("start", null, x::start);
                break;
            case 5:
            case 6:
                boolean counted = a >= 1 && a <= 1000;
                Class<?> stopped = x.state() == TapedLines.RUNNING ? null : IllegalStateException.class;
                due.throwsThat("run " + a, counted ? stopped : IllegalArgumentException.class, () -> x.run(a));
                break;
            case 7:
                due.throwsThat("save", null, x::save);
                break;
            case 8:
                due.throwsThat("load", null, x::load);
                break;
            case 9:
                boolean percent = b >= 0 && b <= 50;
                due.throwsThat("wobble " + b, percent ? null : IllegalArgumentException.class, () -> x.wobble(a, b));
                break;
            case 10:
                boolean there = a >= 0 && a < x.waves();
                Class<?> size = b >= 1 && b <= 100 ? null : IllegalArgumentException.class;
                due.throwsThat("setWave " + a + " " + b, there ? size : IndexOutOfBoundsException.class,
                        () -> x.setWave(a, b));
                break;
            case 11:
                due.throwsThat("wipe", null, x::wipe);
                break;
            default:
                questions(x, a);
                break;
        }
    }

    private static void index(String what, int i, int size, Runnable call) {
        due.throwsThat(what + " " + i, i >= 0 && i < size ? null : IndexOutOfBoundsException.class, call);
    }

    private static void questions(TapedLines x, int a) {
        index("list", a, x.lines(), () -> x.list(a));
        index("programByte", a, Due.bytes(x).length(), () -> x.programByte(a));
        index("variable", a, 8, () -> x.variable(a));
        index("cell", a, 16, () -> x.cell(a));
        index("wave", a, x.waves(), () -> x.wave(a));
        due.throwsThat("charAt", null, () -> x.charAt(a));
        due.throwsThat("the others", null, () -> {
            x.length();
            x.state();
            x.place();
            x.output();
        });
        String before = Due.all(x);
        due.throwsThat("run(0)", IllegalArgumentException.class, () -> x.run(0));
        due.throwsThat("wobble(1, 51)", IllegalArgumentException.class, () -> x.wobble(1, 51));
        due.throwsThat("setWave(-1, 5)", IndexOutOfBoundsException.class, () -> x.setWave(-1, 5));
        due.throwsThat("list(-1)", IndexOutOfBoundsException.class, () -> x.list(-1));
        due.same("all else", Due.all(x), before);
    }
}
