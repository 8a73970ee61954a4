/** Promises 8 start, 9 run, 10 state, 11 place, 12 variable, 13 cell. */
public final class RunTest {
    private static final Due due = new Due();

    public static void main(String[] args) {
        startsAtTheFirst();
        startsWithoutLines();
        startsWithZeros();
        startsWithEmptyRows();
        runs();
        runsWhileRunning();
        anErrorIsNotDone();
        refusesCounts();
        refusesWhenNotRunning();
        states();
        places();
        nowhere();
        variables();
        refusesVariables();
        cells();
        refusesCells();
        due.end();
    }

    private static void startsAtTheFirst() {
        due.sentence("Promise 8: start", "A run begins: RUNNING at the first line");
        Used x = Due.with("20 a=1/0", "5 GOTO 20", "10 END");
        x.start();
        due.same("running", x.state(), TapedLines.RUNNING);
        due.same("at the first line", x.place(), 5);
        x.run(1);
        x.start();
        due.same("again while it runs", x.place(), 5);
        x.run(9);
        due.same("stopped", x.state(), 15);
        x.start();
        due.same("running again", x.state(), TapedLines.RUNNING);
        due.same("from the first line", x.place(), 5);
        due.same("as far as before", x.run(9), 1);
        due.same("stopped again", x.state(), 15);
        String[] broken = {"7 a=1/0", "7 a=@(16)", "7 @(16)=1", "7 GOTO 8", "7 RETURN", "7 NEXT a", "7 GOSUB 7"};
        for (String line : broken) {
            Used y = Due.started(line);
            y.run(9);
            Due.enter(y, "7 a=b+5");
            y.start();
            due.same("no error is left of " + line, y.run(9), 1);
            due.same("ended behind " + line, y.state(), TapedLines.ENDED);
            due.same("a behind " + line, y.variable(0), 5);
        }
        Due.enter(x, "1 END");
        x.start();
        due.same("a new first line", x.place(), 1);
        x.run(1);
        x.start();
        due.same("behind an end", x.state(), TapedLines.RUNNING);
        due.same("the one line 99", Due.started("99 END").place(), 99);
    }

    private static void startsWithoutLines() {
        due.sentence("Promise 8: start", "or ENDED without lines");
        Used x = Due.started();
        due.same("ended", x.state(), TapedLines.ENDED);
        due.same("nowhere", x.place(), TapedLines.NONE);
        due.throwsThat("run", IllegalStateException.class, () -> x.run(1));
        Due.enter(x, "1 END");
        Due.enter(x, "1");
        due.same("idle", x.state(), TapedLines.IDLE);
        x.start();
        due.same("ended again", x.state(), TapedLines.ENDED);
        Used y = Due.started("1 a=5", "2 ?a", "3 @(0)=a");
        y.run(9);
        for (String number : new String[] {"1", "2", "3"}) {
            Due.enter(y, number);
        }
        y.start();
        due.same("all is 0 and empty then, too", y.variable(0) + y.cell(0) + y.output(), 0);
    }

    private static void startsWithZeros() {
        due.sentence("Promise 8: start", "variables and cells are 0");
        Used x = Due.started("1 FOR a=0 TO 15", "2 @(a)=a-99", "3 NEXT a", "4 b=1", "5 c=-1", "6 d=2", "7 e=3", "8 f=4",
                "9 g=5", "10 h=6", "11 GOTO 11");
        x.run(100);
        due.same("h", x.variable(7), 6);
        due.same("cell 15", x.cell(15), -84);
        x.start();
        for (int k = 0; k < 8; k++) {
            due.same("variable " + k, x.variable(k), 0);
        }
        for (int k = 0; k < 16; k++) {
            due.same("cell " + k, x.cell(k), 0);
        }
    }

    private static void startsWithEmptyRows() {
        due.sentence("Promise 8: start", "loops, returns and output empty");
        Used x = Due.started("1 ?\"a\"", "2 FOR a=1 TO 9", "3 GOSUB 4", "4 END");
        x.run(4);
        x.list(0);
        x.start();
        due.same("the page stays", Due.page(x), "1 ?\"a\"");
        due.same("no output is left", x.output(), 0);
        x.start();
        Due.enter(x, "1 NEXT a");
        x.start();
        due.same("no loop is left", x.run(9), 0);
        due.same("so", x.state(), 13);
        Due.enter(x, "1 RETURN");
        x.start();
        due.same("no return is left", x.run(9), 0);
        due.same("so", x.state(), 12);
        // Room for six again, and for 100 characters.
        Used y = Due.started("1 GOSUB 1");
        y.run(9);
        y.start();
        due.same("six returns again", y.run(9), 6);
        Used z = Due.started("1 ?\"0123456789\"", "2 GOTO 1");
        z.run(99);
        z.start();
        due.same("ten rows again", z.run(99), 20);
        Used w = Due.started("1 FOR a=1 TO 1", "2 FOR b=1 TO 1", "3 FOR c=1 TO 1", "4 FOR d=1 TO 1", "5 FOR e=1 TO 1",
                "6 FOR f=1 TO 1", "7 FOR g=1 TO 1");
        w.run(9);
        Due.enter(w, "1 FOR h=1 TO 1");
        w.start();
        due.same("six loops again", w.run(9), 6);
    }

    private static void runs() {
        due.sentence("Promise 9: run", "Does statements, at most n");
        Used x = Due.started("10 a=a+1", "20 GOTO 10");
        due.same("one", x.run(1), 1);
        due.same("place", x.place(), 20);
        due.same("a", x.variable(0), 1);
        due.same("one more", x.run(1), 1);
        due.same("place", x.place(), 10);
        due.same("a", x.variable(0), 1);
        due.same("999", x.run(999), 999);
        due.same("a", x.variable(0), 501);
        due.same("1000", x.run(1000), 1000);
        due.same("a", x.variable(0), 1001);
        due.same("place", x.place(), 20);
        due.same("still running", x.state(), TapedLines.RUNNING);
    }

    private static void runsWhileRunning() {
        due.sentence("Promise 9: run", "as long as it is RUNNING: how many were done");
        due.same("an end", Due.started("1 a=1", "2 END", "3 a=2").run(1000), 2);
        due.same("END alone", Due.started("1 END").run(5), 1);
        due.same("the last line", Due.started("1 a=1", "2 b=1").run(3), 2);
        Used x = Due.started("1 a=1", "2 b=1");
        due.same("just as many", x.run(2), 2);
        due.same("ended", x.state(), TapedLines.ENDED);
        due.same("fewer", Due.started("1 a=1", "2 b=1").run(1), 1);
    }

    private static void anErrorIsNotDone() {
        due.sentence("Promise 9: run", "(one that meets an error is not)");
        due.same("the first", Due.started("1 RETURN").run(1), 0);
        due.same("the third", Due.started("1 a=1", "2 b=1", "3 RETURN").run(1000), 2);
        Used x = Due.started("1 a=1", "2 b=1", "3 RETURN");
        due.same("before it", x.run(2), 2);
        due.same("running still", x.state(), TapedLines.RUNNING);
        due.same("it alone", x.run(1), 0);
        due.same("stopped", x.state(), 12);
    }

    private static void refusesCounts() {
        due.sentence("Promise 9: run", "IllegalArgument: n is not 1 .. 1000.");
        int[] none = {0, -1, 1001, 1002, -1000, 65537, Integer.MIN_VALUE, Integer.MAX_VALUE};
        Used x = Due.started("1 a=a+1", "2 GOTO 1");
        Used idle = Due.with("1 END");
        Used ended = Due.started();
        Used stopped = Due.started("1 RETURN");
        stopped.run(1);
        for (int n : none) {
            due.throwsThat("run(" + n + ")", IllegalArgumentException.class, () -> x.run(n));
            due.throwsThat("run(" + n + "), idle", IllegalArgumentException.class, () -> idle.run(n));
            due.throwsThat("run(" + n + "), ended", IllegalArgumentException.class, () -> ended.run(n));
            due.throwsThat("run(" + n + "), stopped", IllegalArgumentException.class, () -> stopped.run(n));
        }
        due.same("nothing was done", x.variable(0), 0);
        due.same("the place", x.place(), 1);
        due.same("1", x.run(1), 1);
        due.same("1000", x.run(1000), 1000);
    }

    private static void refusesWhenNotRunning() {
        due.sentence("Promise 9: run", "IllegalState: it is not RUNNING.");
        Used x = new Used();
        due.throwsThat("new", IllegalStateException.class, () -> x.run(1));
        Due.enter(x, "1 a=1");
        due.throwsThat("idle", IllegalStateException.class, () -> x.run(1));
        due.throwsThat("idle, many", IllegalStateException.class, () -> x.run(1000));
        x.start();
        x.run(1);
        due.throwsThat("ended", IllegalStateException.class, () -> x.run(1));
        for (String line : new String[] {"1 GOTO 2", "1 RETURN", "1 NEXT a", "1 GOSUB 1", "1 a=1/0", "1 a=@(16)"}) {
            Used y = Due.started(line);
            y.run(9);
            due.throwsThat("stopped by " + line, IllegalStateException.class, () -> y.run(1));
        }
        x.save();
        x.start();
        x.load();
        due.throwsThat("loaded", IllegalStateException.class, () -> x.run(1));
    }

    private static void states() {
        due.sentence("Promise 10: state", "IDLE, RUNNING, ENDED, or 10 more than the number of the error that"
                + " stopped it.");
        Used x = new Used();
        due.same("new", x.state(), TapedLines.IDLE);
        Due.enter(x, "1 a=1");
        due.same("entered", x.state(), TapedLines.IDLE);
        x.start();
        due.same("started", x.state(), TapedLines.RUNNING);
        x.run(1);
        due.same("at the end", x.state(), TapedLines.ENDED);
        String[] lines = {"1 GOTO 2", "1 RETURN", "1 NEXT a", "1 GOSUB 1", "1 a=1/0", "1 a=@(16)", "1 ?\"x\""};
        for (int error = 1; error <= 7; error++) {
            Used y = error < 7 ? Due.started(lines[error - 1]) : Due.started(lines[6], "2 GOTO 1");
            y.run(1000);
            due.same("stopped by error " + error, y.state(), 10 + error);
            due.same("and again", y.state(), 10 + error);
        }
    }

    private static void places() {
        due.sentence("Promise 11: place", "The number of the line that is next, or met the error");
        Used x = Due.started("5 GOTO 99", "7 GOSUB 5", "98 a=1/0", "99 IF 1 GOTO 7");
        int[] next = {99, 7, 5, 99, 7};
        due.same("the first", x.place(), 5);
        for (int place : next) {
            x.run(1);
            due.same("next", x.place(), place);
        }
        Used y = Due.started("1 a=1", "98 a=1/0", "99 END");
        y.run(1);
        due.same("before the error", y.place(), 98);
        y.run(1);
        due.same("it met the error", y.place(), 98);
        due.same("still", y.place(), 98);
    }

    private static void nowhere() {
        due.sentence("Promise 11: place", "NONE when it is IDLE or ENDED");
        Used x = new Used();
        due.same("new", x.place(), TapedLines.NONE);
        Due.enter(x, "1 END");
        due.same("idle", x.place(), TapedLines.NONE);
        x.start();
        x.run(1);
        due.same("ended", x.place(), TapedLines.NONE);
        x.start();
        Due.enter(x, "2 END");
        due.same("idle again", x.place(), TapedLines.NONE);
        x.save();
        x.start();
        x.load();
        due.same("loaded", x.place(), TapedLines.NONE);
        due.same("without lines", Due.started().place(), TapedLines.NONE);
        Used y = Due.started("1 a=1/0");
        y.run(1);
        Due.enter(y, "2");
        due.same("stopped, then idle", y.place(), TapedLines.NONE);
    }

    private static void variables() {
        due.sentence("Promise 12: variable", "Variable k: 0 is a.");
        Used x = Due.started("1 a=11", "2 b=12", "3 c=13", "4 d=14", "5 e=15", "6 f=16", "7 g=-17", "8 h=-32767-1");
        x.run(9);
        int[] want = {11, 12, 13, 14, 15, 16, -17, -32768};
        for (int k = 0; k < 8; k++) {
            due.same("variable " + k, x.variable(k), want[k]);
        }
    }

    private static void refusesVariables() {
        due.sentence("Promise 12: variable", "IndexOutOfBounds: it is not 0 .. 7.");
        Used x = Due.started("1 a=1", "2 h=8");
        x.run(9);
        due.same("the first", x.variable(0), 1);
        due.same("the last", x.variable(7), 8);
        for (int k : new int[] {-1, 8, 9, -8, 'a', 256, Integer.MIN_VALUE, Integer.MAX_VALUE}) {
            due.throwsThat("variable " + k, IndexOutOfBoundsException.class, () -> x.variable(k));
        }
    }

    private static void cells() {
        due.sentence("Promise 13: cell", "A cell.");
        Used x = Due.started("1 FOR a=0 TO 15", "2 @(a)=a*a-7", "3 NEXT a");
        x.run(99);
        for (int k = 0; k < 16; k++) {
            due.same("cell " + k, x.cell(k), k * k - 7);
        }
    }

    private static void refusesCells() {
        due.sentence("Promise 13: cell", "IndexOutOfBounds: it is not 0 .. 15.");
        Used x = Due.started("1 @(0)=1", "2 @(15)=8");
        x.run(9);
        due.same("the first", x.cell(0), 1);
        due.same("the last", x.cell(15), 8);
        for (int k : new int[] {-1, 16, 17, -16, 256, Integer.MIN_VALUE, Integer.MAX_VALUE}) {
            due.throwsThat("cell " + k, IndexOutOfBoundsException.class, () -> x.cell(k));
        }
    }
}
