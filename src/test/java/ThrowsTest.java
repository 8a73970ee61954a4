import java.util.LinkedHashMap;
import java.util.Map;

/** Terms: a call that throws changes nothing, and of several exceptions the first one wins. */
public final class ThrowsTest {
    private static final Class<?> INDEX = IndexOutOfBoundsException.class;
    private static final Class<?> ARGUMENT = IllegalArgumentException.class;
    private static final Class<?> STATE = IllegalStateException.class;

    private static final Due due = new Due();

    public static void main(String[] args) {
        changesNothing();
        firstWins();
        due.end();
    }

    private static TapedLines busy(int done) {
        TapedLines x = Due.with("1 FOR a=1 TO 9", "2 GOSUB 4", "3 END", "4 ?a", "5 @(2)=a", "6 IF a=2 GOTO 3", "7 NEXT a");
        x.save();
        x.wobble(3, 20);
        x.start();
        x.run(done);
        return x;
    }

    /** Objects in all states, each made by the same calls each time. */
    private static TapedLines inState(String name) {
        switch (name) {
            case "new":
                return new TapedLines();
            case "idle":
                TapedLines idle = busy(5);
                Due.enter(idle, "99 END");
                return idle;
            case "running":
                return busy(5);
            case "ended":
                return busy(1000);
            case "stopped":
                TapedLines stopped = busy(1);
                Due.enter(stopped, "5 a=1/0");
                stopped.start();
                stopped.run(1000);
                return stopped;
            default:
                TapedLines started = new TapedLines();
                started.start();
                return started;
        }
    }

    private static final String[] STATES = {"new", "idle", "running", "ended", "stopped", "ended without lines"};
    private static final int[] FAR = {-1, -2, 8000, Integer.MIN_VALUE, Integer.MAX_VALUE};

    private static Map<String, Runnable> throwing(TapedLines x) {
        Map<String, Runnable> calls = new LinkedHashMap<>();
        for (int i : FAR) {
            calls.put("list " + i, () -> x.list(i));
            calls.put("programByte " + i, () -> x.programByte(i));
            calls.put("variable " + i, () -> x.variable(i));
            calls.put("cell " + i, () -> x.cell(i));
            calls.put("wave " + i, () -> x.wave(i));
            calls.put("setWave " + i, () -> x.setWave(i, 50));
            calls.put("wobble " + i, () -> x.wobble(1, i));
            calls.put("run " + i, () -> x.run(i));
            calls.put("setWave 0, " + i, () -> x.setWave(0, i));
        }
        calls.put("list", () -> x.list(x.lines()));
        calls.put("programByte", () -> x.programByte(Due.bytes(x).length()));
        calls.put("variable", () -> x.variable(8));
        calls.put("cell", () -> x.cell(16));
        calls.put("wave", () -> x.wave(x.waves()));
        calls.put("setWave", () -> x.setWave(x.waves(), 50));
        calls.put("wobble", () -> x.wobble(1, 51));
        calls.put("run 0", () -> x.run(0));
        calls.put("run 1001", () -> x.run(1001));
        if (x.state() != TapedLines.RUNNING) {
            calls.put("run 1", () -> x.run(1));
        }
        return calls;
    }

    private static boolean doesThrow(Runnable call) {
        try {
            call.run();
            return false;
        } catch (RuntimeException e) {
            return true;
        }
    }

    private static void changesNothing() {
        due.sentence("Terms", "A call that throws changes nothing");
        for (String state : STATES) {
            TapedLines x = inState(state);
            String before = Due.all(x);
            String page = x.lines() > 0 ? Due.listing(x, 0) : "";
            Due.type(x, "1234");
            for (Map.Entry<String, Runnable> call : throwing(x).entrySet()) {
                String what = call.getKey() + ", " + state;
                due.holds(what + " throws", doesThrow(call.getValue()));
                due.same("the page behind " + what, Due.page(x), page);
            }
            due.same("the text, " + state, x.wipe(), 4);
            due.same("all else, " + state, Due.all(x), before);
            due.same("how it runs on, " + state, onward(x), onward(inState(state)));
        }
    }

    /** What comes of an object later: its loops and returns cannot be asked, but show in what it does. */
    private static String onward(TapedLines x) {
        StringBuilder told = new StringBuilder();
        for (int k = 0; k < 30 && x.state() == TapedLines.RUNNING; k++) {
            told.append(x.run(1)).append(x.place()).append(' ');
        }
        return told.append(x.load()).append(Due.all(x)).toString();
    }

    private static void firstWins() {
        due.sentence("Terms", "where it lists more than one exception, the first one wins");
        for (String state : new String[] {"new", "idle", "ended", "stopped", "ended without lines"}) {
            TapedLines x = inState(state);
            for (int n : new int[] {0, -1, 1001, Integer.MIN_VALUE, Integer.MAX_VALUE}) {
                due.throwsThat("run " + n + ", " + state, ARGUMENT, () -> x.run(n));
            }
            due.throwsThat("run 1, " + state, STATE, () -> x.run(1));
            due.throwsThat("run 1000, " + state, STATE, () -> x.run(1000));
        }
        for (String state : STATES) {
            TapedLines x = inState(state);
            for (int length : new int[] {0, -1, 101, Integer.MIN_VALUE, Integer.MAX_VALUE}) {
                due.throwsThat("setWave behind all and " + length, INDEX, () -> x.setWave(x.waves(), length));
                due.throwsThat("setWave before all and " + length, INDEX, () -> x.setWave(-1, length));
                if (x.waves() > 0) {
                    due.throwsThat("setWave 0 and " + length, ARGUMENT, () -> x.setWave(0, length));
                }
            }
            due.throwsThat("setWave behind all", INDEX, () -> x.setWave(x.waves(), 50));
        }
    }
}
