/** Terms: LINE and STATEMENT, E. */
public final class SyntaxTest {
    private static final String OPERATORS = "=<>+-*/%";

    /** All places of an E: what stands before it, behind it, and behind it when listed. */
    private static final String[][] PLACES = {
        {"1 a=", "", ""},
        {"1 @(", ")=1", ")=1"},
        {"1 @(1)=", "", ""},
        {"1 ?", "", ""},
        {"1 IF ", "GOTO 1", " GOTO 1"},
        {"1 FOR a=", "TO 1", " TO 1"},
        {"1 FOR a=1 TO ", "", ""}};

    private static final Due due = new Due();

    public static void main(String[] args) {
        lineNumbers();
        statements();
        printedRows();
        variables();
        targets();
        rows("An E is one or more SUMS with = < or > between", "=<>");
        rows("a sum one or more PRODUCTS with + or - between", "+-");
        rows("a product one or more ONES with * / or % between", "*/%");
        constants();
        ones();
        depth();
        needlessZeros();
        due.end();
    }

    private static void takes(String e) {
        for (String[] place : PLACES) {
            due.becomes(place[0] + e + place[1], place[0] + e + place[2]);
        }
    }

    private static void refuses(String e, int offset) {
        for (String[] place : PLACES) {
            due.faulty(place[0] + e + place[1], place[0].length() + offset);
        }
    }

    private static void lineNumbers() {
        due.sentence("Terms", "A LINE has a NUMBER, 1 .. 99, and a STATEMENT.");
        due.faulty("0 END", 0);
        due.faulty("-1 END", 0);
        for (int number = 1; number <= 99; number++) {
            due.becomes(number + " END", number + " END");
        }
        due.faulty("100 END", 2);
        due.faulty("999 END", 2);
        due.faulty("4294967297 END", 2);
        due.faulty("END", 0);
        due.faulty("a 1 END", 0);
    }

    private static void statements() {
        due.sentence("Terms", "Statements: v = E; @ ( E ) = E; ? E; ? \" and any row, perhaps empty, of characters"
                + " but \" and a \" again; GOTO number; GOSUB number; RETURN; IF E GOTO number; FOR v = E TO E;"
                + " NEXT v; END.");
        String[] all = {"a=1", "@(1)=2", "?1", "?\"x\"", "GOTO 2", "GOSUB 2", "RETURN", "IF 1 GOTO 2", "FOR a=1 TO 2",
            "NEXT a", "END"};
        for (String statement : all) {
            due.becomes("1 " + statement, "1 " + statement);
        }
        // Each beginning of a statement but a whole one is a fault at its end; so is a first character that none has.
        for (char c = '!'; c <= '~'; c++) {
            due.faulty("1 " + c, "abcdefgh@?GRIFNE".indexOf(c) >= 0 ? 3 : 2);
        }
        String[] cut = {"a", "a=", "@", "@(", "@(1", "@(1)", "@(1)=", "?", "GOTO", "GOSUB", "IF", "IF 1", "IF 1 GOTO", "FOR",
            "FOR a", "FOR a=", "FOR a=1", "FOR a=1 TO", "NEXT"};
        for (String statement : cut) {
            due.faulty("1 " + statement, 2 + statement.length());
        }
        // Nothing stands behind a whole one.
        for (String statement : all) {
            due.faulty("1 " + statement + " !", 3 + statement.length());
            due.faulty("1 " + statement + " END", 3 + statement.length());
        }
        due.faulty("1 LET a=1", 2);
        due.faulty("1 TO 2", 2);
        due.faulty("1 IF 1 GOSUB 2", 9);
        due.faulty("1 IF 1 END", 7);
        due.faulty("1 FOR @(1)=1 TO 2", 6);
        due.faulty("1 FOR a=1 GOTO 2", 10);
        due.faulty("1 GOTO a", 7);
        due.faulty("1 NEXT", 6);
    }

    private static void printedRows() {
        due.sentence("Terms", "? \" and any row, perhaps empty, of characters but \" and a \" again");
        due.becomes("1 ?\"\"", "1 ?\"\"");
        due.becomes("1 ? \"\"", "1 ?\"\"");
        for (char c = ' '; c <= '~'; c++) {
            if (c != '"') {
                due.becomes("1 ?\"" + c + "\"", "1 ?\"" + c + "\"");
            }
        }
        due.becomes("1?\"" + "x".repeat(56) + "\"", "1 ?\"" + "x".repeat(56) + "\"");
        due.faulty("1 ?\"\"\"", 5);
        due.faulty("1 ?\"x\"y\"", 6);
        due.faulty("1 ?\"", 4);
        due.faulty("1 ?\"x", 5);
        due.faulty("1 ?x\"", 3);
        due.faulty("1 a=\"x\"", 4);
        due.faulty("1 ?1\"x\"", 4);
        due.faulty("1 ?\"x\"1", 6);
    }

    private static void variables() {
        due.sentence("Terms", "v is one of a .. h");
        for (char c = '!'; c <= '~'; c++) {
            if (c >= 'a' && c <= 'h') {
                due.becomes("1 " + c + "=0", "1 " + c + "=0");
                due.becomes("1 FOR " + c + "=0 TO 1", "1 FOR " + c + "=0 TO 1");
                due.becomes("1 NEXT " + c, "1 NEXT " + c);
            } else {
                due.faulty("1 FOR " + c + "=0 TO 1", 6);
                due.faulty("1 NEXT " + c, 7);
            }
        }
        due.faulty("1 i=0", 2);
        due.faulty("1 `=0", 2);
        due.faulty("1 A=0", 2);
        due.faulty("1 H=0", 2);
        due.faulty("1 aa=0", 3);
        due.faulty("1 NEXT ab", 8);
    }

    private static void targets() {
        due.sentence("Terms", "number that of a line");
        for (String before : new String[] {"1 GOTO ", "1 GOSUB ", "1 IF a GOTO "}) {
            int at = before.length();
            due.faulty(before, at);
            due.faulty(before + "0", at);
            for (int number : new int[] {1, 2, 9, 10, 11, 98, 99}) {
                due.becomes(before + number, before + number);
            }
            due.faulty(before + "100", at + 2);
            due.faulty(before + "999", at + 2);
            due.faulty(before + "-1", at);
            due.faulty(before + "(1)", at);
            due.faulty(before + "a", at);
            due.faulty(before + "1+1", at + 1);
        }
    }

    private static void rows(String quote, String marks) {
        due.sentence("Terms", quote);
        takes("b");
        for (char mark : marks.toCharArray()) {
            takes("b" + mark + "c");
            takes("b" + mark + "-c");
            takes("b" + mark + "c" + mark + "d" + mark + "e" + mark + "f" + mark + "g");
            refuses("b" + mark, 2);
            if (mark != '-') {
                refuses(mark + "b", 0);
            }
            for (char other : OPERATORS.toCharArray()) {
                takes("b" + mark + "c" + other + "d");
                if (other != '-') {
                    refuses("b" + mark + other + "c", 2);
                }
            }
        }
        refuses("", 0);
        betweenOnes();
    }

    private static void betweenOnes() {
        for (char c = '!'; c <= '~'; c++) {
            String text = "1 a=b" + c + "d";
            if (OPERATORS.indexOf(c) >= 0) {
                due.becomes(text, text);
            } else {
                due.faulty(text, 5);
            }
        }
        due.faulty("1 a=b d", 6);
    }

    private static void constants() {
        due.sentence("Terms", "a one is a CONSTANT 0 .. 32767");
        for (String constant : new String[] {"0", "1", "9", "10", "255", "9999", "10000", "32766", "32767"}) {
            takes(constant);
            takes("-" + constant);
        }
        refuses("32768", 4);
        refuses("-32768", 5);
        refuses("32770", 4);
        refuses("33000", 4);
        refuses("40000", 4);
        refuses("65536", 4);
        refuses("99999", 4);
        refuses("100000", 5);
        refuses("327670", 5);
        refuses("4294967296", 4);
        due.faulty("1 a=b+32768", 10);
        due.faulty("1 a=(32768)", 9);
    }

    private static void ones() {
        due.sentence("Terms", "a one is a CONSTANT 0 .. 32767, a .. h, @ ( E ), ( E ), or - and a one");
        for (char c = ' '; c <= '~'; c++) {
            String text = "1 a=" + c;
            if (c >= 'a' && c <= 'h' || c >= '0' && c <= '9') {
                due.becomes(text, text);
            } else {
                due.faulty(text, " (@-".indexOf(c) >= 0 ? 5 : 4);
            }
        }
        takes("(b)");
        takes("@(b)");
        takes("(b=c)*(d+1)");
        takes("--b");
        takes("-(-b)");
        takes("-@(-1)");
        refuses("()", 1);
        refuses("@()", 2);
        refuses("@", 1);
        refuses("@b", 1);
        refuses("@@(1)", 1);
        refuses("-", 1);
        refuses("--", 2);
        refuses("-*b", 1);
        refuses("(b)(c)", 3);
        refuses("(b c)", 3);
        refuses("2b", 1);
        due.faulty("1 a=(b", 6);
        due.faulty("1 a=@(b", 7);
        due.faulty("1 a=(b))", 7);
        due.faulty("1 a=b)", 5);
        due.faulty("1 IF (b GOTO 1", 8);
        due.becomes("1a=" + "-".repeat(56) + "b", "1 a=" + "-".repeat(56) + "b");
    }

    private static void depth() {
        due.sentence("Terms", "E lie in one another (by brackets) at most 4 deep.");
        for (int kinds = 0; kinds < 16; kinds++) {
            String three = "";
            for (int k = 0; k < 3; k++) {
                three += (kinds >> k & 1) == 0 ? "(" : "@(";
            }
            String fourth = kinds < 8 ? "(" : "@(";
            takes(three + "b)))");
            refuses(three + fourth + "b))))", three.length());
            refuses(three + "-" + fourth + "b))))", three.length() + 1);
            refuses(three + "b+" + fourth + "c))))", three.length() + 2);
        }
        takes("(((b)))+(((c)))");
        takes("(b+(c+(d)))*(((e))-f)");
        refuses("(((b)))+((((c))))", 11);
        refuses("((((((((((b", 3);
        due.becomes("1 @((((b))))=(((c)))", "1 @((((b))))=(((c)))");
        due.faulty("1 @(((((b)))))=c", 7);
        due.faulty("1 @((((b))))=((((c))))", 16);
    }

    private static void needlessZeros() {
        due.sentence("Terms", "Numbers are told without needless zeros.");
        takes("0");
        takes("10");
        takes("100");
        takes("20000");
        refuses("00", 1);
        refuses("01", 1);
        refuses("007", 1);
        refuses("032767", 1);
        refuses("-00", 2);
        due.faulty("1 a=b+05", 7);
        due.faulty("01 END", 0);
        due.faulty("00", 0);
        due.faulty("007", 0);
        due.becomes("10 END", "10 END");
        for (String before : new String[] {"1 GOTO ", "1 GOSUB ", "1 IF a GOTO "}) {
            due.faulty(before + "01", before.length());
            due.becomes(before + "10", before + "10");
        }
    }
}
