import java.util.LinkedHashMap;
import java.util.Map;

/** Terms: a call that throws changes nothing, and of several exceptions the first one wins. */
public final class ThrowsTest {
    private static final Class<?> INDEX = IndexOutOfBoundsException.class;
    private static final Class<?> ARGUMENT = IllegalArgumentException.class;
    private static final Class<?> STATE = IllegalStateException.class;

    private static final Due due = new Due();

    public static void main(String[] args) {
        changesNothing();
        firstWins();
        due.end();
    }

    private static Used busy(int done) {
        Used x = new Used();
        // A tape of few half-waves, so that all of them can be asked.
        x.save();
        x.wobble(3, 20);
        for (String line : new String[] {"1FORa=1TO9", "2GOSUB4", "3END", "4?a", "5@(2)=a", "6IFa=2GOTO3", "7NEXTa"}) {
            Due.enter(x, line);
        }
        x.start();
        x.run(done);
        return x;
    }

    /** Objects in all states, each made by the same calls each time. */
    private static Used inState(String name) {
        switch (name) {
            case "new":
                return new Used();
            case "idle":
                Used idle = busy(5);
                Due.enter(idle, "99 END");
                return idle;
            case "running":
                return busy(5);
            case "ended":
                return busy(1000);
            case "stopped":
                Used stopped = busy(1);
                Due.enter(stopped, "5 a=1/0");
                stopped.start();
                stopped.run(1000);
                return stopped;
            default:
                Used started = new Used();
                started.start();
                return started;
        }
    }

    private static final String[] STATES = {"new", "idle", "running", "ended", "stopped", "ended without lines"};
    private static final int[] FAR = {-1, -2, 8000, Integer.MIN_VALUE, Integer.MAX_VALUE};

    private static Map<String, Runnable> throwing(Used x) {
        Map<String, Runnable> calls = new LinkedHashMap<>();
        for (int i : FAR) {
            calls.put("list " + i, () -> x.list(i));
            calls.put("programByte " + i, () -> x.programByte(i));
            calls.put("variable " + i, () -> x.variable(i));
            calls.put("cell " + i, () -> x.cell(i));
            calls.put("wave " + i, () -> x.wave(i));
            calls.put("setWave " + i, () -> x.setWave(i, 50));
            calls.put("wobble " + i, () -> x.wobble(1, i));
            calls.put("run " + i, () -> x.run(i));
            calls.put("setWave 0, " + i, () -> x.setWave(0, i));
        }
        calls.put("list", () -> x.list(x.lines()));
        calls.put("programByte", () -> x.programByte(Due.bytes(x).length()));
        calls.put("variable", () -> x.variable(8));
        calls.put("cell", () -> x.cell(16));
        calls.put("wave", () -> x.wave(x.waves()));
        calls.put("setWave", () -> x.setWave(x.waves(), 50));
        calls.put("wobble", () -> x.wobble(1, 51));
        calls.put("run 0", () -> x.run(0));
        calls.put("run 1001", () -> x.run(1001));
        if (x.state() != TapedLines.RUNNING) {
            calls.put("run 1", () -> x.run(1));
        }
        return calls;
    }

    private static boolean doesThrow(Runnable call) {
        try {
            call.run();
            return false;
        } catch (RuntimeException e) {
            return true;
        }
    }

    private static void changesNothing() {
        due.sentence("Terms", "A call that throws changes nothing");
        for (String state : STATES) {
            String all = Due.all(inState(state));
            String later = later(inState(state));
            for (String call : throwing(inState(state)).keySet()) {
                String what = call + ", " + state;
                Used x = inState(state);
                String page = x.lines() > 0 ? Due.listing(x, 0) : "";
                Due.type(x, "1234");
                due.holds(what + " throws", doesThrow(throwing(x).get(call)));
                due.same("the page behind " + what, Due.page(x), page);
                due.same("the text behind " + what, x.wipe(), 4);
                due.same("all else behind " + what, Due.all(x), all);
                Used y = inState(state);
                due.holds(what + " throws again", doesThrow(throwing(y).get(call)));
                due.same("what comes of it behind " + what, later(y), later);
            }
        }
    }

    /** What comes of an object later: its loops and returns cannot be asked, but show in what it does. */
    private static String later(Used x) {
        StringBuilder told = new StringBuilder();
        for (int k = 0; k < 30 && x.state() == TapedLines.RUNNING; k++) {
            told.append(x.run(1)).append(x.place()).append(' ');
        }
        return told.append(x.load()).append(Due.all(x)).toString();
    }

    private static void firstWins() {
        due.sentence("Terms", "where it lists more than one exception, the first one wins");
        for (String state : new String[] {"new", "idle", "ended", "stopped", "ended without lines"}) {
            Used x = inState(state);
            for (int n : new int[] {0, -1, 1001, Integer.MIN_VALUE, Integer.MAX_VALUE}) {
                due.throwsThat("run " + n + ", " + state, ARGUMENT, () -> x.run(n));
            }
            due.throwsThat("run 1, " + state, STATE, () -> x.run(1));
            due.throwsThat("run 1000, " + state, STATE, () -> x.run(1000));
        }
        for (String state : STATES) {
            Used x = inState(state);
            for (int length : new int[] {0, -1, 101, Integer.MIN_VALUE, Integer.MAX_VALUE}) {
                due.throwsThat("setWave behind all and " + length, INDEX, () -> x.setWave(x.waves(), length));
                due.throwsThat("setWave before all and " + length, INDEX, () -> x.setWave(-1, length));
                if (x.waves() > 0) {
                    due.throwsThat("setWave 0 and " + length, ARGUMENT, () -> x.setWave(0, length));
                }
            }
            due.throwsThat("setWave behind all", INDEX, () -> x.setWave(x.waves(), 50));
        }
    }
}
