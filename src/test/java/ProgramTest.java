/** Promises 5 lines, 6 list, 7 programByte, 21 length, 22 charAt. */
public final class ProgramTest {
    private static final Due due = new Due();

    public static void main(String[] args) {
        lines();
        lists();
        programBytes();
        page();
        due.end();
    }

    private static void lines() {
        TapedLines x = new TapedLines();
        for (int k = 1; k <= 66; k++) {
            due.same("enter", Due.enter(x, k + "END"), 3 * k);
            due.same("lines", x.lines(), k);
            if (k % 20 == 0) {
                x.start();
            }
        }
        due.same("too many", Due.enter(x, "99 END"), TapedLines.FULL);
        due.same("lines", x.lines(), 66);
    }

    private static void lists() {
        TapedLines x = Due.with("9 IF a<1 GOTO 9", "10 FOR a = 1 TO 5", "5 RETURN", "7 GOSUB 10", "8 @(a) = - 2",
                "20 NEXT a", "30 ? \" a  TO \"", "40 END", "50 ? 1");
        String[] listed = {"5 RETURN", "7 GOSUB 10", "8 @(a)=-2", "9 IF a<1 GOTO 9", "10 FOR a=1 TO 5", "20 NEXT a",
            "30 ?\" a  TO \"", "40 END", "50 ?1"};
        for (int k = 0; k < listed.length; k++) {
            due.same("list", x.list(k), listed[k].length());
            due.same("its page", Due.page(x), listed[k]);
        }
        due.throwsThat("list(9)", IndexOutOfBoundsException.class, () -> x.list(9));
        due.throwsThat("list(-1)", IndexOutOfBoundsException.class, () -> x.list(-1));
        due.throwsThat("the least", IndexOutOfBoundsException.class, () -> x.list(Integer.MIN_VALUE));
        due.throwsThat("the most", IndexOutOfBoundsException.class, () -> x.list(Integer.MAX_VALUE));
        due.same("the page stays", Due.page(x), "50 ?1");
        Due.enter(x, "50");
        due.same("the page stays when the line goes", Due.page(x), "50 ?1");
        due.throwsThat("list(8)", IndexOutOfBoundsException.class, () -> x.list(8));
        String longest = "1 ?\"" + "~".repeat(55) + "\"";
        due.same("a longest line", Due.listing(Due.with(longest), 0), longest);
    }

    private static void programBytes() {
        TapedLines x = Due.with("1 GOTO 2", "2 GOSUB 3", "3 RETURN", "4 IF a GOTO 5", "5 FOR a=1 TO 9", "6 NEXT a", "7 END");
        int[] want = {1, 2, 128, '2', 2, 2, 129, '3', 3, 1, 130, 4, 4, 131, 'a', 128, '5', 5, 6, 132, 'a', '=', '1', 133,
            '9', 6, 2, 134, 'a', 7, 1, 135};
        for (int k = 0; k < want.length; k++) {
            due.same("byte " + k, x.programByte(k), want[k]);
        }
        int size = want.length;
        due.throwsThat("behind them", IndexOutOfBoundsException.class, () -> x.programByte(size));
        due.throwsThat("before them", IndexOutOfBoundsException.class, () -> x.programByte(-1));
        due.throwsThat("far off", IndexOutOfBoundsException.class, () -> x.programByte(Integer.MAX_VALUE));
        Due.enter(x, "7");
        due.throwsThat("taken away", IndexOutOfBoundsException.class, () -> x.programByte(size - 1));
        due.same("the last", x.programByte(size - 4), 'a');
    }

    private static void page() {
        TapedLines x = Due.with("10 ?\"abc\"");
        due.same("length", x.length(), 0);
        due.same("charAt", x.charAt(0), ' ');
        x.list(0);
        due.same("length", x.length(), 9);
        due.same("first", x.charAt(0), '1');
        due.same("last", x.charAt(8), '"');
        due.same("behind", x.charAt(9), ' ');
        due.same("before", x.charAt(-1), ' ');
        due.same("far off", x.charAt(Integer.MAX_VALUE), ' ');
        due.same("far before", x.charAt(Integer.MIN_VALUE), ' ');
        x.start();
        x.run(1);
        due.same("the page is not the output", Due.page(x), "10 ?\"abc\"");
        due.same("output", x.output(), 3);
        due.same("shorter now", Due.page(x), "abc");
        due.same("nothing left of the old page", x.charAt(4), ' ');
    }
}
