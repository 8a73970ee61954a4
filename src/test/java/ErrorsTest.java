/** Terms, RUNNING: the limits and the errors 1 to 7. */
public final class ErrorsTest {
    private static final String[] SIX_LOOPS = {"1 FOR a=1 TO 2", "2 FOR b=1 TO 2", "3 FOR c=1 TO 2", "4 FOR d=1 TO 2",
        "5 FOR e=1 TO 2", "6 FOR f=1 TO 2"};
    // 99 characters after 20 statements.
    private static final String[] OUTPUT_OF_99 = {"1 FOR a=1 TO 9", "2 ?\"0123456789\"", "3 NEXT a", "4 ?\"123456789\""};

    private static final Due due = new Due();

    public static void main(String[] args) {
        noLine();
        noReturn();
        noLoop();
        tooManyLoops();
        tooManyReturns();
        tooMany();
        byZero();
        cells();
        noCell();
        outputRoom();
        noRoom();
        doesNothing();
        firstOfItsE();
        leastOfTheOthers();
        due.end();
    }

    private static String[] and(String[] lines, String... more) {
        String[] all = java.util.Arrays.copyOf(lines, lines.length + more.length);
        System.arraycopy(more, 0, all, lines.length, more.length);
        return all;
    }

    /** The run meets the error there, when so many statements have been done. */
    private static void stops(int error, int place, int done, String... lines) {
        Used x = Due.started(lines);
        String what = String.join(" : ", lines);
        due.same("run of " + what, x.run(1000), done);
        due.same("state of " + what, x.state(), 10 + error);
        due.same("place of " + what, x.place(), place);
        due.throwsThat("run again of " + what, IllegalStateException.class, () -> x.run(1));
        due.same("state then of " + what, x.state(), 10 + error);
    }

    private static void ends(int done, String... lines) {
        Used x = Due.started(lines);
        String what = String.join(" : ", lines);
        due.same("run of " + what, x.run(1000), done);
        due.same("state of " + what, x.state(), TapedLines.ENDED);
    }

    private static void noLine() {
        due.sentence("Terms", "ERROR 1: there is no line to go to.");
        stops(1, 1, 0, "1 GOTO 2");
        stops(1, 5, 0, "5 GOTO 4");
        stops(1, 5, 0, "5 GOTO 99");
        stops(1, 5, 0, "5 GOTO 6", "7 END");
        stops(1, 1, 0, "1 GOSUB 2");
        stops(1, 1, 0, "1 IF 1 GOTO 2");
        stops(1, 1, 0, "1 IF -1 GOTO 2");
        stops(1, 2, 1, "1 a=1", "2 GOTO 3");
        ends(2, "1 GOTO 99", "99 END");
        ends(2, "1 IF 0 GOTO 99", "2 END");
        // Bytes that look like a line's number are none.
        stops(1, 1, 0, "1 GOTO 3", "2 ?\"\"");
        stops(1, 1, 0, "1 GOTO 49", "2 a=1");
    }

    private static void noReturn() {
        due.sentence("Terms", "2: RETURN, but no return is there.");
        stops(2, 1, 0, "1 RETURN");
        stops(2, 2, 2, "1 GOSUB 2", "2 RETURN");
        stops(2, 2, 2, "1 GOSUB 3", "2 RETURN", "3 RETURN");
        stops(2, 2, 1, "1 FOR a=1 TO 2", "2 RETURN");
        ends(3, "1 GOSUB 3", "2 END", "3 RETURN");
    }

    private static void noLoop() {
        due.sentence("Terms", "3: NEXT, but no loop of that variable.");
        stops(3, 1, 0, "1 NEXT a");
        stops(3, 2, 1, "1 a=5", "2 NEXT a");
        stops(3, 2, 1, "1 FOR a=1 TO 2", "2 NEXT b");
        stops(3, 2, 1, "1 FOR h=1 TO 2", "2 NEXT a");
        stops(3, 3, 2, "1 FOR a=1 TO 1", "2 NEXT a", "3 NEXT a");
        // NEXT of an outer loop, and FOR of it, take the inner ones away.
        stops(3, 4, 5, "1 FOR a=1 TO 2", "2 FOR b=1 TO 9", "3 NEXT a", "4 NEXT b");
        stops(3, 4, 3, "1 FOR a=1 TO 2", "2 FOR b=1 TO 9", "3 FOR a=1 TO 2", "4 NEXT b");
        stops(3, 2, 1, "1 GOSUB 2", "2 NEXT a");
    }

    private static void tooManyLoops() {
        due.sentence("Terms", "LOOPS, at most 6");
        ends(7, and(SIX_LOOPS, "7 END"));
        stops(4, 7, 6, and(SIX_LOOPS, "7 FOR g=5 TO 2"));
        stops(4, 7, 6, and(SIX_LOOPS, "7 FOR h=1 TO 9"));
        // A loop of v that there is makes room for the new one.
        ends(7, and(SIX_LOOPS, "7 FOR f=7 TO 9"));
        ends(7, and(SIX_LOOPS, "7 FOR a=7 TO 9"));
        ends(9, and(SIX_LOOPS, "7 NEXT f", "8 FOR g=1 TO 1"));
        stops(4, 9, 9, and(SIX_LOOPS, "7 NEXT f", "8 FOR g=1 TO 1", "9 FOR h=1 TO 1"));
        stops(4, 11, 10, and(SIX_LOOPS, "7 FOR c=7 TO 9", "8 FOR g=1 TO 1", "9 FOR h=1 TO 1", "10 FOR d=1 TO 1",
                "11 FOR e=1 TO 1"));
    }

    private static void tooManyReturns() {
        due.sentence("Terms", "RETURNS, at most 6");
        stops(4, 1, 6, "1 GOSUB 1");
        String[] six = {"1 GOSUB 2", "2 GOSUB 3", "3 GOSUB 4", "4 GOSUB 5", "5 GOSUB 6", "6 GOSUB 7"};
        ends(7, and(six, "7 END"));
        stops(4, 7, 6, and(six, "7 GOSUB 8", "8 END"));
        // One RETURN makes room for one more.
        String[] back = and(six, "7 IF a GOTO 10", "8 a=1", "9 RETURN");
        ends(12, and(back, "10 GOSUB 11", "11 END"));
        stops(4, 11, 11, and(back, "10 GOSUB 11", "11 GOSUB 12", "12 END"));
        // Loops and returns are counted apart.
        ends(13, and(SIX_LOOPS, "7 GOSUB 8", "8 GOSUB 9", "9 GOSUB 10", "10 GOSUB 11", "11 GOSUB 12", "12 GOSUB 13",
                "13 END"));
    }

    private static void tooMany() {
        due.sentence("Terms", "4: a loop or a return would be too many.");
        stops(4, 7, 6, and(SIX_LOOPS, "7 FOR g=1 TO 1"));
        ends(6, SIX_LOOPS);
        stops(4, 1, 6, "1 GOSUB 1");
        Used x = Due.started("1 GOSUB 1");
        due.same("six", x.run(6), 6);
        due.same("still running", x.state(), TapedLines.RUNNING);
        due.same("a seventh", x.run(1), 0);
        due.same("stopped", x.state(), 14);
    }

    private static void byZero() {
        due.sentence("Terms", "5: / or % by 0.");
        String[] zeros = {"0", "b", "-0", "(2-2)", "(1=2)", "@(0)", "(256*256)"};
        for (String zero : zeros) {
            stops(5, 1, 0, "1 a=1/" + zero);
            stops(5, 1, 0, "1 a=1%" + zero);
            stops(5, 1, 0, "1 a=0/" + zero);
            stops(5, 1, 0, "1 a=0%" + zero);
        }
        for (String broken : new String[] {"1/0", "1%0"}) {
            stops(5, 1, 0, "1 a=@(" + broken + ")");
            stops(5, 1, 0, "1 @(" + broken + ")=1");
            stops(5, 1, 0, "1 @(1)=" + broken);
            stops(5, 1, 0, "1 ?" + broken);
            stops(5, 1, 0, "1 IF " + broken + " GOTO 1");
            stops(5, 1, 0, "1 FOR a=" + broken + " TO 1");
            stops(5, 1, 0, "1 FOR a=1 TO " + broken);
            stops(5, 1, 0, "1 a=-(" + broken + ")");
            stops(5, 1, 0, "1 a=0*(" + broken + ")");
        }
        ends(1, "1 a=0/1");
        ends(1, "1 a=0%-1");
    }

    private static void cells() {
        due.sentence("Terms", "CELLS 0 .. 15 (@)");
        for (int k = 0; k < 16; k++) {
            Used x = Due.started("1 @(" + k + ")=77", "2 a=@(" + k + ")", "3 b=@(" + (15 - k) + ")");
            due.same("run with cell " + k, x.run(9), 3);
            due.same("a of cell " + k, x.variable(0), 77);
            due.same("b of another cell than " + k, x.variable(1), 0);
            due.same("cell " + k, x.cell(k), 77);
            due.same("another cell than " + k, x.cell(15 - k), 0);
        }
        stops(6, 1, 0, "1 @(16)=1");
        stops(6, 1, 0, "1 @(-1)=1");
        stops(6, 1, 0, "1 a=@(16)");
        stops(6, 1, 0, "1 a=@(-1)");
    }

    private static void noCell() {
        due.sentence("Terms", "6: no such cell.");
        for (String index : new String[] {"-1", "16", "17", "32767", "-32767-1", "15+1", "0-1"}) {
            stops(6, 1, 0, "1 a=@(" + index + ")");
            stops(6, 1, 0, "1 @(" + index + ")=1");
            stops(6, 1, 0, "1 a=-@(" + index + ")");
            stops(6, 1, 0, "1 a=0*@(" + index + ")");
            stops(6, 1, 0, "1 a=@(@(" + index + "))");
            stops(6, 1, 0, "1 @(@(" + index + "))=1");
            stops(6, 1, 0, "1 ?@(" + index + ")");
            stops(6, 1, 0, "1 IF @(" + index + ") GOTO 1");
            stops(6, 1, 0, "1 FOR a=@(" + index + ") TO 1");
            stops(6, 1, 0, "1 FOR a=1 TO @(" + index + ")");
        }
    }

    private static void outputRoom() {
        due.sentence("Terms", "OUTPUT, at most 100 characters");
        Used x = Due.started("1 ?\"\"", "2 ?9", "3 GOTO 2");
        due.same("fifty numbers", x.run(1000), 101);
        due.same("100 characters", x.output(), 100);
        due.same("stopped", x.state(), 17);
        Used y = Due.started("1 ?-32767", "2 GOTO 1");
        due.same("fourteen numbers", y.run(1000), 28);
        due.same("98 characters", y.output(), 98);
        Used z = Due.started("1 ?\"0123456789\"", "2 GOTO 1");
        due.same("ten rows", z.run(1000), 20);
        due.same("100 characters", z.output(), 100);
    }

    private static void noRoom() {
        due.sentence("Terms", "7: there is no room for the output.");
        stops(7, 5, 20, and(OUTPUT_OF_99, "5 ?1"));
        stops(7, 5, 20, and(OUTPUT_OF_99, "5 ?\"12\""));
        ends(21, and(OUTPUT_OF_99, "5 ?\"\""));
        ends(21, and(OUTPUT_OF_99, "5 ?\"1\""));
        ends(22, and(OUTPUT_OF_99, "5 ?\"1\"", "6 ?\"\""));
        stops(7, 6, 21, and(OUTPUT_OF_99, "5 ?\"1\"", "6 ?\" \""));
        stops(7, 6, 21, and(OUTPUT_OF_99, "5 ?\"1\"", "6 ?0"));
        Used full = Due.started(and(OUTPUT_OF_99, "5 ?\"1\""));
        full.run(99);
        due.same("100 characters", full.output(), 100);
        String[] of98 = and(OUTPUT_OF_99);
        of98[3] = "4 ?\"12345678\"";
        ends(21, and(of98, "5 ?1"));
        stops(7, 5, 20, and(of98, "5 ?-1"));
        stops(7, 5, 20, and(of98, "5 ?10"));
        String[] of93 = and(OUTPUT_OF_99);
        of93[3] = "4 ?\"123\"";
        ends(21, and(of93, "5 ?-32767-1"));
        of93[3] = "4 ?\"1234\"";
        stops(7, 5, 20, and(of93, "5 ?-32767-1"));
        Used cut = Due.started(and(OUTPUT_OF_99, "5 ?12345"));
        cut.run(99);
        due.same("nothing of what has no room is written", cut.output(), 99);
    }

    /** The last line meets the error when all before it have been done, and changes nothing. */
    private static void doesNothing(int error, int before, String... lines) {
        Used x = Due.started(lines);
        String what = lines[lines.length - 1] + " behind " + before;
        due.same("run before " + what, x.run(before), before);
        Used twin = Due.started(lines);
        twin.run(before);
        due.same("run of " + what, x.run(1), 0);
        due.same("state of " + what, x.state(), 10 + error);
        due.same("place of " + what, x.place(), twin.place());
        due.same("all else of " + what, Due.allButState(x), Due.allButState(twin));
        due.throwsThat("run behind " + what, IllegalStateException.class, () -> x.run(1));
    }

    private static void doesNothing() {
        due.sentence("Terms", "one that meets an ERROR does nothing and stops the run there");
        String[] some = {"1 a=7", "2 @(3)=9", "3 ?5", "4 FOR b=3 TO 9"};
        for (String statement : new String[] {"GOTO 88", "GOSUB 88", "IF 1 GOTO 88"}) {
            doesNothing(1, 4, and(some, "5 " + statement));
        }
        doesNothing(2, 4, and(some, "5 RETURN"));
        doesNothing(3, 4, and(some, "5 NEXT a"));
        doesNothing(4, 6, and(SIX_LOOPS, "7 FOR g=5 TO 2"));
        doesNothing(4, 6, "1 GOSUB 1");
        for (String statement : new String[] {"a=1/0", "@(3)=1/0", "@(1/0)=4", "?1/0", "FOR a=1 TO 1/0", "FOR a=1/0 TO 1",
            "IF 1/0 GOTO 1"}) {
            doesNothing(5, 4, and(some, "5 " + statement));
        }
        for (String statement : new String[] {"a=@(16)", "@(16)=1", "@(-1)=1", "@(3)=@(-1)", "?@(16)", "FOR a=1 TO @(16)"}) {
            doesNothing(6, 4, and(some, "5 " + statement));
        }
        doesNothing(7, 20, and(OUTPUT_OF_99, "5 ?\"12\""));
        doesNothing(7, 20, and(OUTPUT_OF_99, "5 ?1"));
        Used x = Due.started("1 a=1/0", "2 b=1");
        x.run(9);
        due.same("what stands behind it is not done", x.variable(1), 0);
    }

    private static void firstOfItsE() {
        due.sentence("Terms", "All its E are worked out first, from the left, and the first error met in them"
                + " counts");
        stops(5, 1, 0, "1 @(1/0)=@(16)");
        stops(6, 1, 0, "1 @(@(16))=1/0");
        stops(6, 1, 0, "1 a=@(16)/0");
        stops(6, 1, 0, "1 a=1/@(16)");
        stops(5, 1, 0, "1 a=1/0*@(16)");
        stops(5, 1, 0, "1 a=1/0+@(16)");
        stops(5, 1, 0, "1 a=1/0=@(16)");
        stops(6, 1, 0, "1 a=@(16)+1/0");
        stops(6, 1, 0, "1 a=@(16)=1/0");
        stops(6, 1, 0, "1 a=0*@(16)+1/0");
        stops(6, 1, 0, "1 a=1=@(99)%0");
        stops(5, 1, 0, "1 a=1+2*(3/0)-@(16)");
        stops(5, 1, 0, "1 a=@(1/0)");
        stops(5, 1, 0, "1 a=-(1/0)-@(16)");
        stops(5, 1, 0, "1 FOR a=1/0 TO @(16)");
        stops(6, 1, 0, "1 FOR a=@(16) TO 1/0");
        // What an E meets counts before what the statement itself meets, though that has a lesser number.
        stops(5, 1, 0, "1 IF 1/0 GOTO 88");
        stops(6, 1, 0, "1 IF @(16) GOTO 88");
        stops(5, 7, 6, and(SIX_LOOPS, "7 FOR g=5 TO 1/0"));
        stops(6, 7, 6, and(SIX_LOOPS, "7 FOR g=@(16) TO 1"));
        stops(5, 1, 0, "1 @(16)=1/0");
        stops(5, 5, 20, and(OUTPUT_OF_99, "5 ?1/0"));
        stops(6, 5, 20, and(OUTPUT_OF_99, "5 ?@(16)"));
    }

    private static void leastOfTheOthers() {
        due.sentence("Terms", "then, of several others, the one with the least number");
        // Six returns are kept and there is no line.
        stops(1, 7, 6, "1 GOSUB 2", "2 GOSUB 3", "3 GOSUB 4", "4 GOSUB 5", "5 GOSUB 6", "6 GOSUB 7", "7 GOSUB 88");
        stops(4, 7, 6, "1 GOSUB 2", "2 GOSUB 3", "3 GOSUB 4", "4 GOSUB 5", "5 GOSUB 6", "6 GOSUB 7", "7 GOSUB 7");
    }
}
