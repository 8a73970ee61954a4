/** Promises 2 type, 3 wipe, 4 enter. */
public final class TextTest {
    private static final Due due = new Due();

    public static void main(String[] args) {
        types();
        wipes();
        numbers();
        words();
        expressions();
        quotes();
        entersInPlace();
        takesAway();
        full();
        stopsTheRun();
        due.end();
    }

    private static void fault(String text, int place) {
        TapedLines x = Due.with("50 a=1");
        x.start();
        String before = Due.all(x);
        due.same("enter of [" + text + "]", Due.enter(x, text), -1 - place);
        due.same("all else with [" + text + "]", Due.all(x), before);
        due.same("text behind [" + text + "]", x.wipe(), 0);
    }

    private static void good(String text, String listed) {
        TapedLines x = new TapedLines();
        due.holds("enter of [" + text + "]", Due.enter(x, text) > 0);
        due.same("[" + text + "] listed", x.lines() == 1 ? Due.listing(x, 0) : "", listed);
    }

    private static void types() {
        TapedLines x = new TapedLines();
        for (int c = 0; c <= 65535; c++) {
            boolean can = c >= 32 && c <= 126;
            if (can != x.type((char) c)) {
                due.same("type of " + c, can ? 0 : 1, can ? 1 : 0);
            }
            x.wipe();
        }
        for (int k = 0; k < 60; k++) {
            due.holds("character " + k, x.type(' '));
        }
        due.holds("no character 60", !x.type(' '));
        due.holds("no character 60, and none out of range", !x.type((char) 31));
        due.same("wipe", x.wipe(), 60);
        due.holds("a character again", x.type('~'));
    }

    private static void wipes() {
        TapedLines x = Due.with("1 END");
        Due.type(x, "2 EN");
        due.same("wipe", x.wipe(), 4);
        due.same("wipe again", x.wipe(), 0);
        due.same("enter of nothing", x.enter(), -1);
        due.same("lines", x.lines(), 1);
        Due.type(x, "3\tE");
        due.same("a tab is not typed", x.wipe(), 2);
    }

    private static void numbers() {
        fault("", 0);
        fault("   ", 3);
        fault("0", 0);
        fault("07 a=1", 0);
        fault("  07", 2);
        fault("100 a=1", 2);
        fault("999", 2);
        fault("1 2", 2);
        fault("x", 0);
        fault("a=1", 0);
        fault("-1 a=1", 0);
        fault("1 GOTO 0", 7);
        fault("1 GOTO 01", 7);
        fault("1 GOTO 100", 9);
        fault("1 GOTO 9 9", 9);
        fault("1 GOTO", 6);
        fault("1 GOTO ", 7);
        fault("1 GOTO a", 7);
        fault("1 a=32768", 8);
        fault("1 a=40000", 8);
        fault("1 a=99999", 8);
        fault("1 a=327670", 9);
        fault("1 a=00", 5);
        fault("1 a=01", 5);
        fault("1 a=1 0", 6);
        fault("1 a=0 0", 6);
        good("1a=32767", "1 a=32767");
        good("99a=0", "99 a=0");
        good("9 a=10000", "9 a=10000");
        good(" 1 GOTO 99 ", "1 GOTO 99");
        good("1 GOTO1", "1 GOTO 1");
    }

    private static void words() {
        fault("7 G", 3);
        fault("7 GO", 4);
        fault("7 GO TO 5", 4);
        fault("7 GOS 5", 5);
        fault("7 GOSUP", 6);
        fault("7 GOSU", 6);
        fault("7 GxS", 3);
        fault("7 goto 5", 3);
        fault("7 return", 2);
        fault("7 R", 3);
        fault("7 RETURNS", 8);
        fault("7 RETURN 5", 9);
        fault("7 END a", 6);
        fault("7 EN D", 4);
        fault("7 IF", 4);
        fault("7 IF GOTO 5", 5);
        fault("7 IF a", 6);
        fault("7 IF a ", 7);
        fault("7 IF a GOSUB 5", 9);
        fault("7 IF a THEN", 7);
        fault("7 IF a G OTO 5", 8);
        fault("7 FOR i=1 TO 5", 6);
        fault("7 FOR a 1", 8);
        fault("7 FOR a=1", 9);
        fault("7 FOR a=1 T O 5", 11);
        fault("7 FOR a=1 GOTO", 10);
        fault("7 FOR a=1 TO", 12);
        fault("7 FOR a=1 TO 5 GOTO", 15);
        fault("7 NEXT", 6);
        fault("7 NEXT i", 7);
        fault("7 NEXT 1", 7);
        fault("7 NEXT a b", 9);
        fault("7 TO", 2);
        fault("7 i=1", 2);
        fault("7 A=1", 2);
        fault("7 a", 3);
        fault("7 a a", 4);
        good("7FORa=1TO5", "7 FOR a=1 TO 5");
        good(" 7 FOR h = b TO c ", "7 FOR h=b TO c");
        good("7IFaGOTO5", "7 IF a GOTO 5");
        good("7 GOSUB5", "7 GOSUB 5");
        good("7 RETURN  ", "7 RETURN");
        good("7NEXTh", "7 NEXT h");
        good("7END", "7 END");
    }

    private static void expressions() {
        fault("1 a=", 4);
        fault("1 a==1", 4);
        fault("1 a=1=", 6);
        fault("1 a=+1", 4);
        fault("1 a=1**2", 6);
        fault("1 a=1<=2", 6);
        fault("1 a=()", 5);
        fault("1 a=(1", 6);
        fault("1 a=(1))", 7);
        fault("1 a=1)", 5);
        fault("1 a=b c", 6);
        fault("1 a=@", 5);
        fault("1 a=@1", 5);
        fault("1 a=@ 1", 6);
        fault("1 a=(1 TO", 7);
        fault("1 a=((((b))))", 7);
        fault("1 a=@(@(@(@(1))))", 10);
        fault("1 a=(((-@(1))))", 8);
        fault("1 @((((b))))=((((c))))", 16);
        fault("1 @(((((b", 7);
        fault("1 @(1)", 6);
        fault("1 @(1)1", 6);
        fault("1 @(1)=", 7);
        fault("1 @1", 3);
        fault("1 @", 3);
        fault("1 ?", 3);
        fault("1 ? ", 4);
        fault("1 ? ) ", 4);
        fault("1 a=-", 5);
        fault("1 a=1!", 5);
        fault("1 a=\"x\"", 4);
        good("1 a=(((b)))+(((c)))", "1 a=(((b)))+(((c)))");
        good("1 @ ( ( ( ( b ) ) ) ) = @(@(@(1)))", "1 @((((b))))=@(@(@(1)))");
        good("1 a=----3<4=5>6%7/8*9", "1 a=----3<4=5>6%7/8*9");
        good("1 a=- - ( - b ) - - @ ( - 0 )", "1 a=--(-b)--@(-0)");
        good("1 a=b=c", "1 a=b=c");
        String minuses = "1a=" + "-".repeat(57);
        fault(minuses, 60);
        good(minuses.substring(0, 59) + "1", "1 " + minuses.substring(1, 59) + "1");
        fault("1a=((" + "-".repeat(55), 60);
    }

    private static void quotes() {
        fault("7 ? \"a", 6);
        fault("7 ?\"", 4);
        fault("7 ?\"a\" b", 7);
        fault("7 ?\"a\"\"", 6);
        fault("7 ?\"" + "x".repeat(56), 60);
        good("7 ? \"\"", "7 ?\"\"");
        good("7 ? \" a  b \" ", "7 ?\" a  b \"");
        good("7 ?\"GOTO TO (((((\"", "7 ?\"GOTO TO (((((\"");
        TapedLines x = new TapedLines();
        due.same("words between quotes are characters", Due.enter(x, "7 ?\"GOTO\""), 9);
        due.same("their bytes", Due.bytes(x), "\u0007\u0007?\"GOTO\"");
    }

    private static void entersInPlace() {
        TapedLines x = new TapedLines();
        due.same("first", Due.enter(x, "20 a=1"), 5);
        due.same("before it", Due.enter(x, "10 END"), 8);
        due.same("behind it", Due.enter(x, "30 b=22"), 14);
        due.same("between", Due.enter(x, "25 NEXT a"), 18);
        due.same("instead, longer", Due.enter(x, "20 a=12345"), 22);
        due.same("instead, shorter", Due.enter(x, "20 END"), 16);
        due.same("lines", x.lines(), 4);
        due.same("bytes", Due.bytes(x), "\n\u0001\u0087\u0014\u0001\u0087\u0019\u0002\u0086a\u001e\u0004b=22");
    }

    private static void takesAway() {
        TapedLines x = Due.with("10 a=1", "20 b=2", "30 c=3");
        due.same("one that is not there", Due.enter(x, "15"), 15);
        due.same("the middle", Due.enter(x, " 20 "), 10);
        due.same("lines", x.lines(), 2);
        due.same("bytes", Due.bytes(x), "\n\u0003a=1\u001e\u0003c=3");
        due.same("the last", Due.enter(x, "30"), 5);
        due.same("the first", Due.enter(x, "10"), 0);
        due.same("none", x.lines(), 0);
        due.same("none at all", Due.enter(x, "10"), 0);
    }

    private static void full() {
        String row = "?\"" + "x".repeat(45) + "\"";
        TapedLines x = Due.with("1" + row, "2" + row, "3" + row);
        due.same("200 bytes", Due.enter(x, "4" + row), 200);
        x.start();
        String before = Due.all(x);
        Due.type(x, "5 END");
        due.same("203 bytes", x.enter(), TapedLines.FULL);
        due.same("all else", Due.all(x), before);
        due.same("the text", x.wipe(), 0);
        due.same("one byte more", Due.enter(x, "4 ?\"" + "x".repeat(46) + "\""), TapedLines.FULL);
        due.same("all else", Due.all(x), before);
        due.same("a fault when full", Due.enter(x, "5 EN"), -5);
        due.same("as many", Due.enter(x, "4 ?\"" + "y".repeat(45) + "\""), 200);
        due.same("fewer", Due.enter(x, "4 END"), 153);
    }

    private static void stopsTheRun() {
        TapedLines x = Due.started("1 a=7", "2 @(3)=a", "3 ?a", "4 a=1/0");
        x.run(2);
        due.same("a fault", Due.enter(x, "9 9"), -3);
        due.same("runs on", x.state(), TapedLines.RUNNING);
        due.same("its place", x.place(), 3);
        x.run(5);
        due.same("stopped", x.state(), 15);
        due.same("a number alone", Due.enter(x, "50"), 24);
        due.same("idle", x.state(), TapedLines.IDLE);
        due.same("nowhere", x.place(), TapedLines.NONE);
        due.same("variables stay", x.variable(0), 7);
        due.same("cells stay", x.cell(3), 7);
        due.same("output stays", Due.output(x), "7 ");
        due.throwsThat("run", IllegalStateException.class, () -> x.run(1));
    }
}
