/** Promises 8 start, 9 run, 10 state, 11 place, 12 variable, 13 cell, 14 output. */
public final class RunTest {
    private static final Due due = new Due();

    public static void main(String[] args) {
        starts();
        runs();
        refuses();
        numbers();
        nextLineIsNotRead();
        firstErrorCounts();
        jumps();
        returns();
        loops();
        loopsTooMany();
        cells();
        output();
        due.end();
    }

    private static void worth(String expression, int want) {
        TapedLines x = Due.started("1 h=-32767-1", "2 a=" + expression);
        due.same("steps of " + expression, x.run(2), 2);
        due.same(expression, x.variable(0), want);
    }

    private static void stops(int error, int place, int done, String... lines) {
        TapedLines x = Due.started(lines);
        String what = String.join(" : ", lines);
        due.same("run of " + what, x.run(1000), done);
        due.same("state of " + what, x.state(), 10 + error);
        due.same("place of " + what, x.place(), place);
        due.throwsThat("run again of " + what, IllegalStateException.class, () -> x.run(1));
    }

    private static void starts() {
        TapedLines x = new TapedLines();
        x.start();
        due.same("without lines", x.state(), TapedLines.ENDED);
        due.same("nowhere", x.place(), TapedLines.NONE);
        due.throwsThat("run", IllegalStateException.class, () -> x.run(1));
        for (String line : new String[] {"5 a=1", "6 @(0)=2", "7 FOR b=1 TO 2", "8 GOSUB 9", "9 ?a"}) {
            Due.enter(x, line);
        }
        due.same("idle", x.state(), TapedLines.IDLE);
        x.start();
        due.same("at the first line", x.place(), 5);
        x.run(4);
        x.list(0);
        x.start();
        due.same("running", x.state(), TapedLines.RUNNING);
        due.same("from the first line", x.place(), 5);
        due.same("variables", x.variable(0) + x.variable(1), 0);
        due.same("cells", x.cell(0), 0);
        due.same("the page stays", Due.page(x), "5 a=1");
        due.same("output", x.output(), 0);
        TapedLines y = Due.started("1 IF a GOTO 4", "2 FOR a=1 TO 9", "3 GOSUB 4", "4 RETURN");
        y.run(3);
        Due.enter(y, "1 NEXT a");
        y.start();
        y.run(9);
        due.same("no loop is left", y.state(), 13);
        Due.enter(y, "1 RETURN");
        y.start();
        y.run(9);
        due.same("no return is left", y.state(), 12);
    }

    private static void runs() {
        TapedLines x = Due.started("10 a=a+1", "20 GOTO 10");
        due.same("one", x.run(1), 1);
        due.same("place", x.place(), 20);
        due.same("many", x.run(1000), 1000);
        due.same("place", x.place(), 20);
        due.same("variable", x.variable(0), 501);
        due.same("state", x.state(), TapedLines.RUNNING);
        TapedLines y = Due.started("1 a=1", "2 END", "3 a=2");
        due.same("END is done", y.run(1000), 2);
        due.same("ended", y.state(), TapedLines.ENDED);
        due.same("nowhere", y.place(), TapedLines.NONE);
        due.same("what is behind is not done", y.variable(0), 1);
        TapedLines z = Due.started("1 a=1");
        due.same("the last line", z.run(1), 1);
        due.same("ends the run", z.state(), TapedLines.ENDED);
        z.start();
        due.same("and again", z.run(2), 1);
    }

    private static void refuses() {
        TapedLines x = Due.with("1 GOTO 1");
        due.throwsThat("run(0), idle", IllegalArgumentException.class, () -> x.run(0));
        due.throwsThat("run(1), idle", IllegalStateException.class, () -> x.run(1));
        x.start();
        due.throwsThat("run(0)", IllegalArgumentException.class, () -> x.run(0));
        due.throwsThat("run(1001)", IllegalArgumentException.class, () -> x.run(1001));
        due.throwsThat("run(-1)", IllegalArgumentException.class, () -> x.run(-1));
        due.throwsThat("run of the least", IllegalArgumentException.class, () -> x.run(Integer.MIN_VALUE));
        due.same("still running", x.state(), TapedLines.RUNNING);
        due.throwsThat("variable(-1)", IndexOutOfBoundsException.class, () -> x.variable(-1));
        due.throwsThat("variable(8)", IndexOutOfBoundsException.class, () -> x.variable(8));
        due.throwsThat("cell(-1)", IndexOutOfBoundsException.class, () -> x.cell(-1));
        due.throwsThat("cell(16)", IndexOutOfBoundsException.class, () -> x.cell(16));
    }

    private static void numbers() {
        worth("h", -32768);
        worth("-h", -32768);
        worth("--h", -32768);
        worth("h-1", 32767);
        worth("32767+1", -32768);
        worth("1000*1000", 16960);
        worth("32767*32767", 1);
        worth("h/-1", -32768);
        worth("h%-1", 0);
        worth("7/2", 3);
        worth("-7/2", -3);
        worth("7/-2", -3);
        worth("7%3", 1);
        worth("-7%3", -1);
        worth("7%-3", 1);
        worth("2+3*4", 14);
        worth("(2+3)*4", 20);
        worth("10-3-2", 5);
        worth("100/5/2", 10);
        worth("100/7*7%5", 3);
        worth("1+2=3", 1);
        worth("3=1+2*1", 1);
        worth("3>2>1", 0);
        worth("1<2<3", 1);
        worth("3=3=3", 0);
        worth("2>1=1", 1);
        worth("h<0", 1);
        worth("0<0", 0);
        worth("0>0", 0);
        worth("-2*-3", 6);
        worth("5--3", 8);
        worth("-(2+3)", -5);
        worth("---4", -4);
        worth("-@(0)+0", 0);
        worth("(((1+1)*2+1)*2+1)", 11);
    }

    private static void nextLineIsNotRead() {
        for (int number = 4; number <= 99; number++) {
            TapedLines x = Due.started("1 b=3", "2 a=b", "3 c=12", number + " d=5");
            due.same("run before line " + number, x.run(9), 4);
            due.same("a before line " + number, x.variable(0), 3);
            due.same("c before line " + number, x.variable(2), 12);
            TapedLines y = Due.started("1 GOTO " + (number == 99 ? 98 : number), Math.min(number, 98) + " a=1");
            due.same("jump before line " + number, y.run(9), 2);
            TapedLines z = Due.started("1 c=12", "2 a=c", number + " END");
            z.run(9);
            due.same("c just before line " + number, z.variable(0), 12);
        }
    }

    private static void firstErrorCounts() {
        stops(5, 1, 0, "1 a=1/0");
        stops(5, 1, 0, "1 a=1%0");
        stops(5, 1, 0, "1 a=1/b");
        stops(6, 1, 0, "1 a=@(16)");
        stops(6, 1, 0, "1 a=@(-1)");
        stops(6, 1, 0, "1 @(16)=1");
        stops(6, 1, 0, "1 @(-1)=1");
        stops(5, 1, 0, "1 @(16)=1/0");
        stops(5, 1, 0, "1 @(1/0)=@(16)");
        stops(6, 1, 0, "1 @(@(16))=1/0");
        stops(6, 1, 0, "1 a=@(16)/0");
        stops(5, 1, 0, "1 a=1/0*@(16)");
        stops(5, 1, 0, "1 a=1/0+@(16)");
        stops(6, 1, 0, "1 a=1/@(16)");
        stops(6, 1, 0, "1 a=0*@(16)+1/0");
        stops(5, 1, 0, "1 a=(1/0)=@(16)");
        stops(6, 1, 0, "1 a=1=@(99)%0");
        stops(5, 1, 0, "1 a=@(1/0)");
        stops(5, 1, 0, "1 a=-(1/0)-@(16)");
        stops(5, 1, 0, "1 IF 1/0 GOTO 9");
        stops(5, 1, 0, "1 FOR a=1/0 TO @(16)");
        stops(6, 1, 0, "1 FOR a=1 TO @(16)");
        stops(5, 1, 0, "1 ? 1/0");
        TapedLines x = Due.started("1 a=7", "2 FOR a=1 TO 1/0");
        x.run(9);
        due.same("FOR that failed changes nothing", x.variable(0), 7);
        due.same("its place", x.place(), 2);
    }

    private static void jumps() {
        stops(1, 1, 0, "1 GOTO 2");
        stops(1, 1, 0, "1 GOSUB 2");
        stops(1, 1, 0, "1 IF 1 GOTO 2");
        stops(1, 1, 0, "1 IF -1 GOTO 2");
        TapedLines x = Due.started("1 IF 0 GOTO 9", "2 IF 5 GOTO 4", "3 a=1", "4 b=1");
        due.same("IF goes on or jumps", x.run(9), 3);
        due.same("line 3 was not done", x.variable(0), 0);
        due.same("line 4 was", x.variable(1), 1);
        TapedLines y = Due.started("1 GOTO 3", "2 END", "3 GOTO 2");
        due.same("back and forth", y.run(9), 3);
    }

    private static void returns() {
        stops(2, 1, 0, "1 RETURN");
        stops(4, 1, 6, "1 GOSUB 1");
        TapedLines x = Due.started("1 GOSUB 3", "2 END", "3 a=a+1", "4 GOSUB 6", "5 RETURN", "6 b=b+1", "7 RETURN");
        due.same("there and back", x.run(99), 7);
        due.same("ended", x.state(), TapedLines.ENDED);
        TapedLines y = Due.started("1 GOTO 3", "2 RETURN", "3 GOSUB 2");
        due.same("a return behind the last line", y.run(9), 3);
        due.same("ends the run", y.state(), TapedLines.ENDED);
        // Six returns are kept and there is no line: of both errors, the lesser one.
        stops(1, 3, 25, "1 IF a=6 GOTO 3", "2 GOSUB 4", "3 GOSUB 88", "4 a=a+1", "5 GOTO 1");
    }

    private static void loops() {
        TapedLines x = Due.started("1 FOR a=1 TO 3", "2 FOR b=a TO 3", "3 ?a*10+b", "4 NEXT b", "5 NEXT a");
        x.run(999);
        due.same("nested", Due.output(x), "11 12 13 22 23 33 ");
        due.same("a", x.variable(0), 4);
        due.same("b", x.variable(1), 4);
        TapedLines once = Due.started("1 FOR a=9 TO 1", "2 b=b+1", "3 NEXT a");
        due.same("at least once", once.run(9), 3);
        due.same("its variable", once.variable(0), 10);
        stops(3, 1, 0, "1 NEXT a");
        stops(3, 4, 3, "1 FOR a=1 TO 1", "2 b=1", "3 NEXT a", "4 NEXT a");
        stops(3, 3, 2, "1 FOR a=1 TO 2", "2 FOR b=1 TO 2", "3 NEXT c");
        // NEXT of an outer loop and FOR of it take the inner ones away.
        stops(3, 4, 5, "1 FOR a=1 TO 2", "2 FOR b=1 TO 9", "3 NEXT a", "4 NEXT b");
        stops(3, 4, 3, "1 FOR a=1 TO 2", "2 FOR b=1 TO 9", "3 FOR a=1 TO 2", "4 NEXT b");
        stops(3, 5, 4, "1 FOR a=2 TO 2", "2 FOR b=1 TO 9", "3 NEXT a", "4 a=1", "5 NEXT b");
        TapedLines wraps = Due.started("1 FOR a=32767 TO 32767", "2 NEXT a");
        due.same("no number is above 32767", wraps.run(1000), 1000);
        due.same("it wraps", wraps.variable(0), -32768 + 998);
        TapedLines limit = Due.started("1 a=3", "2 FOR a=a+1 TO a+2", "3 NEXT a");
        limit.run(99);
        due.same("the second E before v is changed", limit.variable(0), 6);
        TapedLines kept = Due.started("1 b=2", "2 FOR a=1 TO b", "3 b=9", "4 NEXT a");
        kept.run(99);
        due.same("the second E is worked out once", kept.variable(0), 3);
        TapedLines last = Due.started("1 GOTO 3", "2 NEXT a", "3 FOR a=1 TO 5");
        due.same("a loop of the last line", last.run(9), 2);
        due.same("ends there", last.state(), TapedLines.ENDED);
    }

    private static void loopsTooMany() {
        String[] six = {"1 FOR a=1 TO 2", "2 FOR b=1 TO 2", "3 FOR c=1 TO 2", "4 FOR d=1 TO 2", "5 FOR e=1 TO 2",
            "6 FOR f=1 TO 2", ""};
        six[6] = "7 FOR g=5 TO 2";
        stops(4, 7, 6, six);
        TapedLines x = Due.started(six);
        x.run(9);
        due.same("it did nothing", x.variable(6), 0);
        six[6] = "7 FOR g=5 TO 1/0";
        stops(5, 7, 6, six);
        six[6] = "7 FOR f=7 TO 9";
        TapedLines y = Due.started(six);
        due.same("the sixth again", y.run(9), 7);
        due.same("its variable", y.variable(5), 7);
        six[6] = "7 FOR c=7 TO 9";
        TapedLines z = Due.with(six);
        Due.enter(z, "8 FOR g=1 TO 1");
        Due.enter(z, "9 FOR h=1 TO 1");
        Due.enter(z, "10 FOR d=1 TO 1");
        Due.enter(z, "11 FOR e=1 TO 1");
        z.start();
        due.same("the third again makes room for three", z.run(99), 10);
        due.same("but not for four", z.state(), 14);
        due.same("there", z.place(), 11);
    }

    private static void cells() {
        TapedLines x = Due.started("1 @(0)=5", "2 @(15)=-32767-2", "3 @(@(0)+1)=@(0)*@(15)", "4 a=@(6)");
        due.same("run", x.run(9), 4);
        due.same("cell 0", x.cell(0), 5);
        due.same("cell 15", x.cell(15), 32767);
        due.same("cell 6", x.cell(6), 32763);
        due.same("a", x.variable(0), 32763);
        TapedLines y = Due.started("1 a=1", "2 b=2", "3 c=3", "4 d=4", "5 e=5", "6 f=6", "7 g=7", "8 h=8");
        y.run(9);
        for (int k = 0; k < 8; k++) {
            due.same("variable " + k, y.variable(k), k + 1);
        }
    }

    private static void output() {
        TapedLines x = Due.started("1 ?0", "2 ?-5", "3 ?\"a b\"", "4 ?\"\"", "5 ?32767", "6 ?-32767-1", "7 ?10", "8 ?9");
        x.run(9);
        due.same("output", Due.output(x), "0 -5 a b32767 -32768 10 9 ");
        due.same("length", x.output(), 26);
        // 99 characters, then as many as there is room for, or one more.
        String tens = "?\"0123456789\"";
        String[] lines = {"1 FOR a=1 TO 9", "2" + tens, "3 NEXT a", "4 ?\"123456789\"", ""};
        lines[4] = "5 ?1";
        stops(7, 5, 20, lines);
        lines[4] = "5 ?\"12\"";
        stops(7, 5, 20, lines);
        lines[4] = "5 ?\"\"";
        due.same("nothing more", Due.started(lines).run(99), 21);
        lines[4] = "5 ?\"1\"";
        TapedLines y = Due.started(lines);
        due.same("one more", y.run(99), 21);
        due.same("100", y.output(), 100);
        lines[3] = "4 ?\"12345678\"";
        lines[4] = "5 ?1";
        TapedLines z = Due.started(lines);
        due.same("a number and its space", z.run(99), 21);
        due.same("100", z.output(), 100);
        lines[4] = "5 ?-1";
        stops(7, 5, 20, lines);
        TapedLines v = Due.started(lines);
        v.run(99);
        due.same("what had no room is not written", v.output(), 98);
    }
}
