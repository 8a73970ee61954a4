/** Terms, RUNNING: what the statements do. */
public final class StatementsTest {
    private static final Due due = new Due();

    public static void main(String[] args) {
        sets();
        goesTo();
        writes();
        goesSub();
        returnsOnce();
        ifs();
        forPuts();
        forTakesLoopsAway();
        forKeepsLimit();
        nextTakesLoopsAway();
        nextGrows();
        nextCompares();
        end();
        behindTheLast();
        due.end();
    }

    private static Used run(int done, int state, String... lines) {
        Used x = Due.started(lines);
        String what = String.join(" : ", lines);
        due.same("run of " + what, x.run(1000), done);
        due.same("state of " + what, x.state(), state);
        return x;
    }

    private static Used ends(int done, String... lines) {
        Used x = run(done, TapedLines.ENDED, lines);
        due.same("place of " + String.join(" : ", lines), x.place(), TapedLines.NONE);
        return x;
    }

    private static void stops(int error, int place, int done, String... lines) {
        Used x = run(done, 10 + error, lines);
        due.same("place of " + String.join(" : ", lines), x.place(), place);
    }

    private static void sets() {
        due.sentence("Terms", "Statements: v = E; @ ( E ) = E");
        Used x = ends(8, "1 a=1", "2 b=2", "3 c=3", "4 d=4", "5 e=5", "6 f=6", "7 g=7", "8 h=8");
        for (int k = 0; k < 8; k++) {
            due.same("variable " + k, x.variable(k), k + 1);
        }
        Used y = ends(5, "1 @(0)=5", "2 @(15)=-32767-2", "3 @(@(0)+1)=@(0)*@(15)", "4 a=@(6)", "5 a=a-a+a/2");
        due.same("cell 0", y.cell(0), 5);
        due.same("cell 15", y.cell(15), 32767);
        due.same("cell 6", y.cell(6), 32763);
        due.same("a", y.variable(0), 16381);
    }

    private static void goesTo() {
        due.sentence("Terms", "GOTO number");
        Used x = ends(4, "1 GOTO 98", "2 a=1", "3 GOTO 99", "98 GOTO 3", "99 b=1");
        due.same("what it goes past is not done", x.variable(0), 0);
        due.same("what it goes to is", x.variable(1), 1);
        due.same("to itself", Due.started("5 GOTO 5").run(1000), 1000);
    }

    private static void written(String statement, String want) {
        Used x = ends(2, "1 h=-32767-1", "2 " + statement);
        due.same("output of " + statement, Due.output(x), want);
    }

    private static void writes() {
        due.sentence("Terms", "? writes the number (- if it is below 0, decimal) and a space, or the characters.");
        written("?0", "0 ");
        written("?-0", "0 ");
        written("?-1", "-1 ");
        written("?9", "9 ");
        written("?10", "10 ");
        written("?99", "99 ");
        written("?100", "100 ");
        written("?-999", "-999 ");
        written("?1000", "1000 ");
        written("?9999", "9999 ");
        written("?10000", "10000 ");
        written("?-10001", "-10001 ");
        written("?32767", "32767 ");
        written("?h", "-32768 ");
        written("?1<2", "1 ");
        written("?\"\"", "");
        written("?\" \"", " ");
        written("?\"a b\"", "a b");
        written("?\"-~!'TO GOTO\"", "-~!'TO GOTO");
        Used x = ends(5, "1 ?1", "2 ?\"a\"", "3 ?-2", "4 ?\"\"", "5 ?\"b\"");
        due.same("one behind the other", Due.output(x), "1 a-2 b");
    }

    private static void goesSub() {
        due.sentence("Terms", "GOSUB goes to a line and keeps the line behind its own as the latest return");
        // 1, 4, 7, 8, 5, 6, 2, 3.
        Used x = ends(8, "1 GOSUB 4", "2 ?\"c\"", "3 END", "4 GOSUB 7", "5 ?\"b\"", "6 RETURN", "7 ?\"a\"", "8 RETURN");
        due.same("the latest first", Due.output(x), "abc");
        Used y = Due.started("10 GOSUB 30", "20 END", "30 RETURN");
        y.run(1);
        due.same("there", y.place(), 30);
        y.run(1);
        due.same("the line behind", y.place(), 20);
    }

    private static void returnsOnce() {
        due.sentence("Terms", "RETURN goes to that, which is gone then");
        stops(2, 2, 2, "1 GOSUB 3", "2 RETURN", "3 RETURN");
        // 1, 3, 4, 4: the second RETURN finds the first return, the third one finds none.
        stops(2, 2, 4, "1 GOSUB 3", "2 RETURN", "3 GOSUB 4", "4 RETURN");
        ends(5, "1 GOSUB 4", "2 GOSUB 4", "3 END", "4 RETURN");
    }

    private static void ifs() {
        due.sentence("Terms", "IF goes to the line if E is not 0.");
        for (String e : new String[] {"1", "-1", "2", "256", "32767", "-32767-1", "1<2", "h=0"}) {
            Used x = ends(2, "1 IF " + e + " GOTO 3", "2 a=1", "3 b=1");
            due.same("line 2 is not done with " + e, x.variable(0), 0);
        }
        for (String e : new String[] {"0", "-0", "1=2", "256*256", "a", "@(0)"}) {
            Used x = ends(3, "1 IF " + e + " GOTO 3", "2 a=1", "3 b=1");
            due.same("line 2 is done with " + e, x.variable(0), 1);
            ends(2, "1 IF " + e + " GOTO 88", "2 a=1");
        }
        ends(1, "1 IF 0 GOTO 1");
        due.same("to itself", Due.started("1 IF 1 GOTO 1").run(99), 99);
    }

    private static void forPuts() {
        due.sentence("Terms", "FOR puts the first E into v");
        for (int k = 0; k < 8; k++) {
            char v = (char) ('a' + k);
            Used x = Due.started("1 " + v + "=5", "2 FOR " + v + "=" + v + "*2-30 TO 9", "3 END");
            x.run(2);
            due.same("variable " + v, x.variable(k), -20);
            due.same("the line behind is next", x.place(), 3);
        }
        Used y = ends(3, "1 FOR a=9 TO 1", "2 b=b+1", "3 NEXT a");
        due.same("though it is above the second", y.variable(0), 10);
        due.same("what stands between is done", y.variable(1), 1);
    }

    private static void forTakesLoopsAway() {
        due.sentence("Terms", "a loop of v that there is goes, with all later ones");
        String[] three = {"1 FOR a=1 TO 9", "2 FOR b=1 TO 9", "3 FOR c=1 TO 9", "4 FOR b=1 TO 9", ""};
        three[4] = "5 NEXT c";
        stops(3, 5, 4, three);
        three[3] = "4 FOR a=1 TO 9";
        stops(3, 5, 4, three);
        three[4] = "5 NEXT b";
        stops(3, 5, 4, three);
        three[3] = "4 FOR c=1 TO 9";
        Used x = Due.started(three);
        due.same("earlier ones stay", x.run(5), 5);
        due.same("b grew", x.variable(1), 2);
        due.same("back to its line", x.place(), 3);
        // The old loop of v is gone: once the new one has gone, there is none.
        stops(3, 4, 3, "1 FOR a=1 TO 9", "2 FOR a=5 TO 5", "3 NEXT a", "4 NEXT a");
    }

    private static void forKeepsLimit() {
        due.sentence("Terms", "a loop of v with the second E (worked out before v is changed) and the line behind"
                + " is then the latest");
        Used x = ends(6, "1 a=3", "2 FOR a=a+1 TO a+2", "3 b=b+1", "4 NEXT a");
        due.same("a", x.variable(0), 6);
        due.same("twice", x.variable(1), 2);
        Used y = ends(6, "1 b=2", "2 FOR a=1 TO b", "3 b=9", "4 NEXT a");
        due.same("worked out once", y.variable(0), 3);
        // 1, 2, 4, 2, 4, 5.
        ends(6, "1 FOR a=1 TO 2", "2 GOTO 4", "3 END", "4 NEXT a", "5 END");
        // It is the latest, so that NEXT of another takes it away.
        stops(3, 4, 3, "1 FOR a=1 TO 1", "2 FOR b=1 TO 9", "3 NEXT a", "4 NEXT b");
        Used z = ends(6, "1 FOR a=1 TO 9", "2 FOR a=5 TO 6", "3 b=b+1", "4 NEXT a");
        due.same("a new limit and a new line", z.variable(1), 2);
    }

    private static void nextTakesLoopsAway() {
        due.sentence("Terms", "NEXT: loops later than that of v go");
        stops(3, 4, 5, "1 FOR a=1 TO 2", "2 FOR b=1 TO 9", "3 NEXT a", "4 NEXT b");
        // They go, too, when it goes back to the loop's line: 1, 2, 4, 5, 6, 2, 4.
        stops(3, 3, 7, "1 FOR a=1 TO 9", "2 GOTO 4", "3 NEXT b", "4 IF b GOTO 3", "5 FOR b=1 TO 9", "6 NEXT a");
        stops(3, 5, 4, "1 FOR a=1 TO 1", "2 FOR b=1 TO 9", "3 FOR c=1 TO 9", "4 NEXT a", "5 NEXT b");
        stops(3, 5, 4, "1 FOR a=1 TO 1", "2 FOR b=1 TO 9", "3 FOR c=1 TO 9", "4 NEXT a", "5 NEXT c");
        Used x = Due.started("1 FOR a=1 TO 9", "2 FOR b=1 TO 1", "3 FOR c=1 TO 9", "4 NEXT b", "5 NEXT a");
        due.same("earlier ones stay", x.run(5), 5);
        due.same("back to the line of the earlier", x.place(), 2);
        ends(9, "1 FOR a=1 TO 2", "2 FOR b=1 TO 2", "3 NEXT b", "4 NEXT a");
    }

    private static void nextGrows() {
        due.sentence("Terms", "v grows by 1 (wrapping)");
        Used x = Due.started("1 FOR a=32767 TO 32767", "2 NEXT a");
        x.run(2);
        due.same("from the most to the least", x.variable(0), -32768);
        due.same("which is not above", x.place(), 2);
        due.same("no number is above 32767", x.run(1000), 1000);
        due.same("and on", x.variable(0), -32768 + 1000);
        Used y = Due.started("1 FOR h=1 TO 5", "2 h=32767", "3 NEXT h");
        y.run(3);
        due.same("what v is now grows", y.variable(7), -32768);
        due.same("back", y.place(), 2);
        Used z = Due.started("1 FOR c=-1 TO 5", "2 NEXT c");
        z.run(2);
        due.same("from -1 to 0", z.variable(2), 0);
        due.same("no other grows", z.variable(1) + z.variable(3), 0);
    }

    /** How often the line between FOR and NEXT is done, and what v is then. */
    private static void loops(String first, String limit, int times, int then) {
        Used x = ends(1 + 2 * times, "1 FOR a=" + first + " TO " + limit, "2 b=b+1", "3 NEXT a");
        due.same("times from " + first + " to " + limit, x.variable(1), times);
        due.same("a from " + first + " to " + limit, x.variable(0), then);
    }

    private static void nextCompares() {
        due.sentence("Terms", "if it is not above the loop's E, it goes to the loop's line; otherwise the loop goes");
        loops("1", "3", 3, 4);
        loops("1", "2", 2, 3);
        loops("1", "1", 1, 2);
        loops("1", "0", 1, 2);
        loops("1", "-5", 1, 2);
        loops("-3", "-1", 3, 0);
        loops("-1", "1", 3, 2);
        loops("32766", "32766", 1, 32767);
        loops("-32767-1", "-32767-1", 1, -32767);
        stops(3, 3, 2, "1 FOR a=1 TO 1", "2 NEXT a", "3 NEXT a");
        Used x = Due.started("1 FOR a=1 TO 3", "2 FOR b=a TO 3", "3 ?a*10+b", "4 NEXT b", "5 NEXT a");
        x.run(999);
        due.same("one in another", Due.output(x), "11 12 13 22 23 33 ");
        due.same("a", x.variable(0), 4);
        due.same("b", x.variable(1), 4);
        Used y = ends(3, "1 FOR a=1 TO 5", "2 a=9", "3 NEXT a");
        due.same("changed in between", y.variable(0), 10);
    }

    private static void end() {
        due.sentence("Terms", "END, and what comes behind the last line, ends the run");
        Used x = ends(2, "1 a=1", "2 END", "3 a=2");
        due.same("what stands behind is not done", x.variable(0), 1);
        due.throwsThat("run", IllegalStateException.class, () -> x.run(1));
        ends(1, "1 END");
        ends(2, "1 GOSUB 3", "2 a=1", "3 END");
        ends(2, "1 FOR a=1 TO 9", "2 END", "3 NEXT a");
        for (String last : new String[] {"a=1", "@(1)=1", "?1", "?\"\"", "IF 0 GOTO 1", "FOR a=1 TO 9"}) {
            ends(1, "9 " + last);
            ends(2, "9 b=1", "99 " + last);
        }
        ends(2, "1 FOR a=1 TO 1", "2 NEXT a");
        Used y = Due.started("1 a=1");
        due.same("just as many as there are", y.run(1), 1);
        due.same("ended at once", y.state(), TapedLines.ENDED);
    }

    private static void behindTheLast() {
        due.sentence("Terms", "(also when a loop or return leads there)");
        ends(3, "1 GOTO 3", "2 RETURN", "3 GOSUB 2");
        Used x = Due.started("1 GOTO 9", "2 a=1", "3 RETURN", "9 GOSUB 2");
        due.same("before the RETURN", x.run(3), 3);
        due.same("still running", x.state(), TapedLines.RUNNING);
        due.same("the RETURN", x.run(1), 1);
        due.same("ended", x.state(), TapedLines.ENDED);
        due.same("nowhere", x.place(), TapedLines.NONE);
        ends(2, "1 GOTO 3", "2 NEXT a", "3 FOR a=1 TO 5");
    }
}
