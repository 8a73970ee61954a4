/** Terms: BYTES and THE PROGRAM; promises 5 lines, 6 list, 7 programByte, 14 output, 21 length, 22 charAt. */
public final class ProgramTest {
    private static final Due due = new Due();

    public static void main(String[] args) {
        bytesOfStatements();
        program();
        atMost200();
        lines();
        lists();
        listsWords();
        refusesToList();
        programBytes();
        refusesProgramBytes();
        output();
        length();
        charAt();
        noCharacter();
        due.end();
    }

    private static void bytesOf(String text, int... want) {
        Used x = Due.with(text);
        due.same("bytes of [" + text + "]", Due.bytes(x).length(), 2 + want.length);
        due.same("how many it tells of [" + text + "]", x.programByte(1), want.length);
        for (int k = 0; k < want.length; k++) {
            due.same("byte " + k + " of [" + text + "]", x.programByte(2 + k), want[k]);
        }
    }

    private static void bytesOfStatements() {
        due.sentence("Terms", "BYTES of a statement: its characters without spaces (but those between quotes), each"
                + " of the words GOTO, GOSUB, RETURN, IF, FOR, TO, NEXT, END being one byte, 128 .. 135 in this"
                + " order.");
        bytesOf("1 GOTO 2", 128, '2');
        bytesOf("1 GOSUB 98", 129, '9', '8');
        bytesOf("1 RETURN", 130);
        bytesOf("1 IF a GOTO 5", 131, 'a', 128, '5');
        bytesOf("1 FOR a = 1 TO 9", 132, 'a', '=', '1', 133, '9');
        bytesOf("1 NEXT a", 134, 'a');
        bytesOf("1 END", 135);
        bytesOf(" 1 @ ( - 1 ) = 32 ", '@', '(', '-', '1', ')', '=', '3', '2');
        bytesOf("1 ? \" \" ", '?', '"', ' ', '"');
        bytesOf("1 ? \"\"", '?', '"', '"');
        bytesOf("1 ?\"END TO\"", '?', '"', 'E', 'N', 'D', ' ', 'T', 'O', '"');
        bytesOf("1 ?\"~\"", '?', '"', 126, '"');
    }

    private static void program() {
        due.sentence("Terms", "THE PROGRAM are for each line, by rising numbers, its number, how many bytes its"
                + " statement has, and these");
        Used x = new Used();
        due.same("without lines", Due.bytes(x), "");
        for (String line : new String[] {"99 END", "9 a=1", "10 RETURN", "1 ?\"\"", "2 NEXT b"}) {
            Due.enter(x, line);
        }
        due.same("bytes", Due.bytes(x),
                "\u0001\u0003?\"\"\u0002\u0002\u0086b\t\u0003a=1\n\u0001\u0082c\u0001\u0087");
        Used longest = Due.with("9?\"" + "x".repeat(56) + "\"");
        due.same("59 bytes of a text of 60 characters", longest.programByte(1), 59);
    }

    private static void atMost200() {
        due.sentence("Terms", "at most 200 bytes in all");
        Used x = new Used();
        for (int k = 1; k <= 66; k++) {
            due.same("enter", Due.enter(x, k + "END"), 3 * k);
        }
        due.same("198 and 3", Due.enter(x, "67 END"), TapedLines.FULL);
        due.same("198 and 2", Due.enter(x, "66 a=1"), 200);
        due.same("200 and 1", Due.enter(x, "65 ?1"), TapedLines.FULL);
        due.same("the last", x.programByte(199), '1');
        due.throwsThat("no more", IndexOutOfBoundsException.class, () -> x.programByte(200));
    }

    private static void lines() {
        due.sentence("Promise 5: lines", "How many lines there are.");
        Used x = new Used();
        due.same("none", x.lines(), 0);
        for (int k = 1; k <= 66; k++) {
            Due.enter(x, k + "END");
            due.same("lines", x.lines(), k);
        }
        Due.enter(x, "99 END");
        due.same("no more with FULL", x.lines(), 66);
        Due.enter(x, "66 RETURN");
        due.same("no more with one in the place of another", x.lines(), 66);
        Due.enter(x, "1");
        due.same("one less", x.lines(), 65);
        Due.enter(x, "1");
        due.same("not one less again", x.lines(), 65);
        Due.enter(x, "1 EN");
        due.same("no more with a fault", x.lines(), 65);
        x.start();
        due.same("as many when it runs", x.lines(), 65);
    }

    private static void lists() {
        due.sentence("Promise 6: list", "Writes line i (from 0, by numbers) on the page, instead of what was there:"
                + " its number, a space, and its bytes");
        Used x = Due.with("99 a=1", "9 b=22", "10 c=333");
        String[] listed = {"9 b=22", "10 c=333", "99 a=1"};
        for (int k : new int[] {0, 1, 2, 1, 0}) {
            due.same("list", x.list(k), listed[k].length());
            due.same("its page", Due.page(x), listed[k]);
            due.same("its length", x.length(), listed[k].length());
        }
        due.same("nothing is left of a longer one", x.charAt(6), ' ');
        String longest = "1 ?\"" + "~".repeat(56) + "\"";
        Used y = Due.with(longest.replace("1 ", "1"));
        due.same("a longest line", y.list(0), 61);
        due.same("its page", Due.page(y), longest);
        Used z = LongTapes.withOneStatement();
        z.load();
        due.same("the longest from a tape", z.list(0), 200);
        due.same("its length", z.length(), 200);
        String page = "1 " + LongTapes.rowOfOneStatement();
        for (int p : new int[] {0, 1, 2, 3, 4, 5, 99, 100, 194, 195, 196, 197, 198, 199}) {
            due.same("character " + p + " of its page", z.charAt(p), page.charAt(p));
        }
    }

    private static void listsWords() {
        due.sentence("Promise 6: list", "words being spelled out, with a space before (but at the beginning) and"
                + " behind (but at the end): how many characters");
        due.becomes("5RETURN", "5 RETURN");
        due.becomes("5END", "5 END");
        due.becomes("5GOTO10", "5 GOTO 10");
        due.becomes("5GOSUB10", "5 GOSUB 10");
        due.becomes("5NEXTa", "5 NEXT a");
        due.becomes("5IFa<1GOTO9", "5 IF a<1 GOTO 9");
        due.becomes("5FORa=1TO5", "5 FOR a=1 TO 5");
        due.becomes("5 FOR  a  =  1  TO  5", "5 FOR a=1 TO 5");
        due.becomes("5?\"aTOb GOTO\"", "5 ?\"aTOb GOTO\"");
        due.same("how many", Due.with("5FORa=1TO5").list(0), 14);
    }

    private static void refusesToList() {
        due.sentence("Promise 6: list", "IndexOutOfBounds: there is no such line.");
        Used x = new Used();
        for (int i : new int[] {0, -1, 1, Integer.MIN_VALUE, Integer.MAX_VALUE}) {
            due.throwsThat("without lines, list " + i, IndexOutOfBoundsException.class, () -> x.list(i));
        }
        Due.enter(x, "7 a=1");
        Due.enter(x, "8 b=1");
        x.list(0);
        for (int i : new int[] {2, 3, 7, 8, -1, -2, Integer.MIN_VALUE, Integer.MAX_VALUE}) {
            due.throwsThat("list " + i, IndexOutOfBoundsException.class, () -> x.list(i));
        }
        due.same("the page stays", Due.page(x), "7 a=1");
        x.list(1);
        Due.enter(x, "8");
        due.throwsThat("a line that went", IndexOutOfBoundsException.class, () -> x.list(1));
        due.same("the page stays", Due.page(x), "8 b=1");
    }

    private static void programBytes() {
        due.sentence("Promise 7: programByte", "Byte i of the program.");
        Used x = Due.with("1 GOTO 2", "2 IF a GOTO 99", "99 END");
        int[] want = {1, 2, 128, '2', 2, 5, 131, 'a', 128, '9', '9', 99, 1, 135};
        for (int k = 0; k < want.length; k++) {
            due.same("byte " + k, x.programByte(k), want[k]);
        }
    }

    private static void refusesProgramBytes() {
        due.sentence("Promise 7: programByte", "IndexOutOfBounds: there is none such.");
        Used x = new Used();
        for (int i : new int[] {0, -1, 1, 199, 200, Integer.MIN_VALUE, Integer.MAX_VALUE}) {
            due.throwsThat("without lines, byte " + i, IndexOutOfBoundsException.class, () -> x.programByte(i));
        }
        Due.enter(x, "7 a=1");
        due.same("the last", x.programByte(4), '1');
        for (int i : new int[] {5, 6, -1, 199, 200, Integer.MIN_VALUE, Integer.MAX_VALUE}) {
            due.throwsThat("byte " + i, IndexOutOfBoundsException.class, () -> x.programByte(i));
        }
        Due.enter(x, "7 END");
        due.throwsThat("a byte that went", IndexOutOfBoundsException.class, () -> x.programByte(3));
        Used full = Due.with200();
        due.same("the last of 200", full.programByte(199), '"');
        due.throwsThat("byte 200 of 200", IndexOutOfBoundsException.class, () -> full.programByte(200));
    }

    private static void output() {
        due.sentence("Promise 14: output", "Writes the output on the page, instead of what was there: how many"
                + " characters.");
        Used x = Due.with("10 ?\"abc\"", "20 ?5");
        due.same("empty", x.output(), 0);
        x.list(0);
        due.same("empty, instead of a line", x.output(), 0);
        due.same("the page", x.length(), 0);
        due.same("nothing is left of it", x.charAt(0), ' ');
        x.start();
        x.run(1);
        due.same("not written of itself", x.length(), 0);
        due.same("output", x.output(), 3);
        due.same("the page", Due.page(x), "abc");
        x.run(1);
        due.same("the page is what it was", Due.page(x), "abc");
        due.same("output", x.output(), 5);
        due.same("the page", Due.page(x), "abc5 ");
        due.same("output again", x.output(), 5);
        Used y = Due.started("1 ?\"0123456789\"", "2 GOTO 1");
        y.run(1000);
        due.same("100 characters", y.output(), 100);
        due.same("the page", Due.page(y), "0123456789".repeat(10));
    }

    private static void length() {
        due.sentence("Promise 21: length", "How many characters the page has.");
        Used x = Due.with("10 ?\"abc\"");
        due.same("empty", x.length(), 0);
        x.list(0);
        due.same("a line", x.length(), 9);
        x.output();
        due.same("an empty output", x.length(), 0);
        x.start();
        x.run(1);
        x.output();
        due.same("an output", x.length(), 3);
        Due.type(x, "20 END");
        due.same("with a text", x.length(), 3);
        x.enter();
        x.save();
        x.load();
        x.start();
        due.same("the page stays", x.length(), 3);
    }

    private static void charAt() {
        due.sentence("Promise 22: charAt", "Character p of the page");
        Used x = Due.with("10 ?\"a c\"");
        x.list(0);
        String want = "10 ?\"a c\"";
        for (int p = 0; p < want.length(); p++) {
            due.same("character " + p, x.charAt(p), want.charAt(p));
        }
    }

    private static void noCharacter() {
        due.sentence("Promise 22: charAt", "a space when there is none");
        Used x = Due.with("10 ?\"abc\"");
        due.same("of an empty page", x.charAt(0), ' ');
        x.list(0);
        due.same("the last", x.charAt(8), '"');
        for (int p : new int[] {9, 10, 255, 256, 257, 100000, Integer.MAX_VALUE, -1, -2, Integer.MIN_VALUE}) {
            due.same("character " + p, x.charAt(p), ' ');
        }
        x.output();
        for (int p = -1; p < 10; p++) {
            due.same("character " + p + " of the empty page again", x.charAt(p), ' ');
        }
    }
}
