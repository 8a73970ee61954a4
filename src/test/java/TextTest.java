/** Terms: TEXT and FAULT; promises 2 type, 3 wipe, 4 enter. */
public final class TextTest {
    private static final String[] WORDS = {"GOTO", "GOSUB", "RETURN", "IF", "FOR", "TO", "NEXT", "END"};
    private static final String[] LINES_OF_WORDS = {"1 GOTO 5", "1 GOSUB 5", "1 RETURN", "1 IF a GOTO 5",
        "1 FOR a=1 TO 5", "1 FOR a=1 TO 5", "1 NEXT a", "1 END"};
    private static final String ROW_OF_45 = Due.ROW_OF_45;

    private static final Due due = new Due();

    public static void main(String[] args) {
        room();
        numberAndStatement();
        spaces();
        spacesBetweenQuotes();
        faultAtFirstWrong();
        faultAtLength();
        types();
        refusesToType();
        wipes();
        textIsEmptyThen();
        replaces();
        takesAway();
        answersBytes();
        answersFault();
        answersFull();
        allElseStays();
        stopsTheRun();
        due.end();
    }

    private static void room() {
        due.sentence("Terms", "The TEXT has at most 60 characters with codes 32 .. 126; places count from 0.");
        Used x = new Used();
        Due.type(x, "1 ?\"" + "x".repeat(55) + "\"");
        due.holds("no character 61", !x.type('y'));
        due.same("a line of 60 characters", x.enter(), 60);
        Due.type(x, "2 ?\"" + "x".repeat(56) + "\"");
        due.same("one of 61 lacks its last", x.enter(), -61);
        due.faulty("!", 0);
        due.faulty("1!", 1);
    }

    private static void numberAndStatement() {
        due.sentence("Terms", "It is to be a number and a statement, or a number alone");
        Used x = Due.with("7 END");
        due.same("a number alone", Due.enter(x, "7"), 0);
        due.same("a number and a statement", Due.enter(x, "8 END"), 3);
        due.faulty("", 0);
        due.faulty("END", 0);
        due.faulty("a=1", 0);
        due.faulty("1 2", 2);
        due.faulty("1 2 END", 2);
        due.faulty("1 END END", 6);
        due.faulty("1 END 2", 6);
    }

    private static void spaces() {
        due.sentence("Terms", "spaces may stand anywhere but within words (GOTO and so on) and numbers");
        String[] lines = {"12 @ ( - ( b ) ) = @ ( 3 ) * 45 < 6", "1 a = 1 + 2", "1 ? b", "1 ? \"x\"", "1 GOTO 23", "1 GOSUB 23",
            "1 RETURN", "1 IF b = 1 GOTO 23", "1 FOR a = 10 TO 20", "1 NEXT h", "1 END"};
        for (String line : lines) {
            String tight = line.replace(" ", "");
            Used x = Due.with(tight);
            String bytes = Due.bytes(x);
            String[] ways = {line, line.replace(" ", "  "), "  " + line + "  ", tight + " ", " " + tight};
            for (String spaced : ways) {
                due.same("bytes of [" + spaced + "]", Due.bytes(Due.with(spaced)), bytes);
            }
        }
        for (int k = 0; k < WORDS.length; k++) {
            splitWord(LINES_OF_WORDS[k], WORDS[k]);
        }
        due.faulty("1 0 END", 2);
        due.faulty("1 a=1 0", 6);
        due.faulty("1 a=0 0", 6);
        due.faulty("1 a=3276 7", 9);
        due.faulty("1 GOTO 9 9", 9);
    }

    private static void splitWord(String line, String word) {
        int from = line.indexOf(word);
        for (int p = from + 1; p < from + word.length(); p++) {
            due.faulty(line.substring(0, p) + " " + line.substring(p), p);
        }
    }

    private static void spacesBetweenQuotes() {
        due.sentence("Terms", "between quotes they are characters like others");
        due.becomes("1 ? \" a  b \" ", "1 ?\" a  b \"");
        due.same("one space", Due.enter(new Used(), "1 ?\" \""), 6);
        due.same("two spaces", Due.enter(new Used(), "1 ?\"  \""), 7);
        due.same("no space", Due.enter(new Used(), "1 ? \"\""), 5);
        Used x = Due.started("1 ?\"  a \"");
        x.run(1);
        due.same("written", Due.output(x), "  a ");
    }

    private static void faultAtFirstWrong() {
        due.sentence("Terms", "Its FAULT is the place of the first character with which the text up to and with it"
                + " is not the beginning of any such text (of any length)");
        due.faulty("x", 0);
        due.faulty("     x", 5);
        due.faulty("7 GOS 5", 5);
        due.faulty("7 GOSUP 5", 6);
        due.faulty("7 GxS", 3);
        due.faulty("7 IF GOTO 5", 5);
        due.faulty("7 FOR a=1 T5", 11);
        due.faulty("7 RETURNS", 8);
        due.faulty("7 a=((b)+!)", 9);
        due.faulty("7 a=(((b+@", 9);
        due.faulty("7 x x x", 2);
        due.faulty("7 ?\"" + "x".repeat(54) + "\"!", 59);
        due.faulty("!" + "x".repeat(59), 0);
        // These would need more than 60 characters, but any length will do.
        due.faulty("7a=(((" + "-".repeat(54), 60);
        due.faulty("7?\"" + "x".repeat(57), 60);
        due.faulty("7IF" + "1+".repeat(28) + "1", 60);
        due.faulty("7 FORa=" + "1+".repeat(25) + "1TO", 60);
    }

    private static void faultAtLength() {
        due.sentence("Terms", "its length when there is none, but the text is none");
        due.faulty("", 0);
        due.faulty(" ", 1);
        due.faulty(" ".repeat(60), 60);
        // The last place may hold the beginning of anything.
        String[] begun = {"1G", "1R", "1I", "1F", "1N", "1E", "1?", "1@", "1a", "1GO", "1GOS", "1a=", "1a=(", "1a=@"};
        for (String last : begun) {
            due.faulty(" ".repeat(60 - last.length()) + last, 60);
        }
        beginnings("12 FOR a=1 TO 56", 1, 2, 3, 15, 16);
        beginnings("1 IF a GOTO 98", 1, 2, 13, 14);
        beginnings("1 @(b)=c+1", 1, 2, 8, 10);
        beginnings("1 GOSUB 7 ", 1, 2, 9, 10);
        beginnings("1 ?\" \" ", 1, 2, 6, 7);
        beginnings("1 RETURN", 1, 2, 8);
        beginnings("1 NEXT a", 1, 2, 8);
        beginnings("1 END", 1, 2, 5);
        beginnings("9 a=-(b)", 1, 2, 8);
    }

    /** Of the text's beginnings just those with these lengths are whole. */
    private static void beginnings(String text, int... whole) {
        for (int size = 0; size <= text.length(); size++) {
            boolean isWhole = false;
            for (int length : whole) {
                isWhole |= length == size;
            }
            int answer = Due.enter(new Used(), text.substring(0, size));
            if (isWhole) {
                due.holds("[" + text.substring(0, size) + "] has no fault", answer >= 0);
            } else {
                due.same("enter of [" + text.substring(0, size) + "]", answer, -1 - size);
            }
        }
    }

    private static void types() {
        due.sentence("Promise 2: type", "Appends a character to the text: true");
        Used x = new Used();
        for (char c = ' '; c <= '~'; c++) {
            due.holds("type of " + (int) c, x.type(c));
            due.same("the text then", x.wipe(), 1);
        }
        for (char c : "42 ?7".toCharArray()) {
            due.holds("type", x.type(c));
        }
        due.same("in this order", x.enter(), 4);
        due.same("listed", Due.listing(x, 0), "42 ?7");
        for (int k = 0; k < 60; k++) {
            due.holds("character " + k, x.type(' '));
        }
        due.same("60", x.wipe(), 60);
    }

    private static void refusesToType() {
        due.sentence("Promise 2: type", "false when c is not 32 .. 126 or there are 60");
        for (int from = 0; from < 65536; from += 256) {
            Used y = new Used();
            boolean any = false;
            for (int c = from; c < from + 256; c++) {
                any |= (c < 32 || c > 126) && y.type((char) c);
            }
            due.holds("no other character from " + from + " on is typed", !any);
            due.same("the text stays empty", y.wipe(), 0);
        }
        Used x = new Used();
        due.holds("nor 31", !x.type((char) 31));
        due.holds("nor 127", !x.type((char) 127));
        due.holds("nor 32 + 65536 / 2", !x.type((char) (32 + 32768)));
        due.same("the text stays empty", x.wipe(), 0);
        Due.type(x, "3\t EN\u00e9D\n");
        due.same("the others are typed", x.wipe(), 5);
        Due.type(x, "1 ?\"" + "x".repeat(55) + "\"");
        for (char c = ' '; c <= '~'; c++) {
            due.holds("no character 61 " + c, !x.type(c));
        }
        due.holds("nor one that is none", !x.type((char) 127));
        due.same("the text stays as it was", x.enter(), 60);
        due.holds("then there is room", x.type('1'));
    }

    private static void wipes() {
        due.sentence("Promise 3: wipe", "The text is empty; how many characters it had.");
        Used x = Due.with("1 END");
        due.same("wipe of nothing", x.wipe(), 0);
        Due.type(x, "2 EN");
        due.same("wipe", x.wipe(), 4);
        due.same("wipe again", x.wipe(), 0);
        due.same("enter of nothing", x.enter(), -1);
        due.same("lines", x.lines(), 1);
        Due.type(x, "2 EN");
        x.wipe();
        Due.type(x, "3 END");
        due.same("nothing of the old text is left", x.enter(), 6);
        Due.type(x, " ".repeat(60));
        due.same("wipe of a full one", x.wipe(), 60);
        due.holds("room again", x.type(' '));
    }

    private static void textIsEmptyThen() {
        due.sentence("Promise 4: enter", "The text, which is empty then, becomes a line, in the place of one with"
                + " that number");
        Used x = new Used();
        Due.enter(x, "1 END");
        due.same("behind a line", x.wipe(), 0);
        Due.enter(x, "1");
        due.same("behind a number alone", x.wipe(), 0);
        Due.enter(x, "1 EN");
        due.same("behind a fault", x.wipe(), 0);
        Used full = Due.with200();
        Due.enter(full, "5 END");
        due.same("behind FULL", full.wipe(), 0);
    }

    private static void replaces() {
        due.sentence("Promise 4: enter", "becomes a line, in the place of one with that number");
        Used x = new Used();
        due.same("the first", Due.enter(x, "20 a=1"), 5);
        due.same("before it", Due.enter(x, "10 END"), 8);
        due.same("behind it", Due.enter(x, "30 b=22"), 14);
        due.same("between", Due.enter(x, "25 NEXT a"), 18);
        due.same("instead, longer", Due.enter(x, "20 a=12345"), 22);
        due.same("instead, shorter", Due.enter(x, "20 END"), 16);
        due.same("instead, the same", Due.enter(x, "20 END"), 16);
        due.same("the first instead", Due.enter(x, "10 a=b"), 18);
        due.same("the last instead", Due.enter(x, "30 ?1"), 16);
        due.same("lines", x.lines(), 4);
        due.same("bytes", Due.bytes(x), "\n\u0003a=b\u0014\u0001\u0087\u0019\u0002\u0086a\u001e\u0002?1");
    }

    private static void takesAway() {
        due.sentence("Promise 4: enter", "a number alone takes that line away");
        Used x = Due.with("10 a=1", "20 b=2", "30 c=3");
        due.same("one that is not there", Due.enter(x, "15"), 15);
        due.same("before all", Due.enter(x, "1"), 15);
        due.same("behind all", Due.enter(x, "99"), 15);
        due.same("the middle", Due.enter(x, " 20 "), 10);
        due.same("lines", x.lines(), 2);
        due.same("bytes", Due.bytes(x), "\n\u0003a=1\u001e\u0003c=3");
        due.same("the last", Due.enter(x, "30"), 5);
        due.same("the first", Due.enter(x, "10"), 0);
        due.same("none", x.lines(), 0);
        due.same("without lines", Due.enter(x, "10"), 0);
    }

    private static void answersBytes() {
        due.sentence("Promise 4: enter", "Answers how many bytes the program has");
        Used x = new Used();
        due.same("none", Due.enter(x, "1"), 0);
        due.same("the fewest", Due.enter(x, "1 END"), 3);
        due.same("more", Due.enter(x, "2 FOR a = 1 TO 5"), 11);
        due.same("fewer", Due.enter(x, "1"), 8);
        Used y = Due.with("1" + ROW_OF_45, "2" + ROW_OF_45, "3" + ROW_OF_45);
        due.same("200", Due.enter(y, "4" + ROW_OF_45), 200);
        due.same("200 again", Due.enter(y, "2 ?\"" + "y".repeat(45) + "\""), 200);
        due.same("fewer", Due.enter(y, "2"), 150);
    }

    private static void answersFault() {
        due.sentence("Promise 4: enter", "-1 - p with a fault p");
        for (int p = 0; p < 60; p++) {
            Used x = new Used();
            due.same("a fault at " + p, Due.enter(x, " ".repeat(p) + "!" + " ".repeat(59 - p)), -1 - p);
        }
        due.same("a fault at 60", Due.enter(new Used(), " ".repeat(60)), -61);
        Used full = Due.with200();
        due.same("a fault without room for the line", Due.enter(full, "5 EN"), -5);
    }

    private static void answersFull() {
        due.sentence("Promise 4: enter", "FULL if there would be more than 200");
        Used x = Due.with("1" + ROW_OF_45, "2" + ROW_OF_45, "3" + ROW_OF_45);
        due.same("201 bytes", Due.enter(x, "4 ?\"" + "x".repeat(46) + "\""), TapedLines.FULL);
        due.same("200 bytes", Due.enter(x, "4" + ROW_OF_45), 200);
        due.same("a new line", Due.enter(x, "5 END"), TapedLines.FULL);
        due.same("a new first line", Due.enter(x, "99 END"), TapedLines.FULL);
        due.same("a longer one instead of the first", Due.enter(x, "1 ?\"" + "x".repeat(46) + "\""), TapedLines.FULL);
        due.same("a longer one instead of the last", Due.enter(x, "4 ?\"" + "x".repeat(46) + "\""), TapedLines.FULL);
        due.same("one as long", Due.enter(x, "4 ?\"" + "y".repeat(45) + "\""), 200);
        due.same("one that is shorter", Due.enter(x, "4 ?\"" + "y".repeat(42) + "\""), 197);
        due.same("just room", Due.enter(x, "5 END"), 200);
        due.same("a number alone that is no line", Due.enter(x, "50"), 200);
        due.same("a number alone", Due.enter(x, "4"), 153);
    }

    private static void allElseStays() {
        due.sentence("Promise 4: enter", "With a fault or FULL all else stays as it was");
        for (String text : new String[] {"8 END!", "8 EN", "", "100"}) {
            Used x = busyWithTape();
            due.holds("a fault of [" + text + "]", Due.enter(x, text) < 0);
            due.same("all else with [" + text + "]", Due.all(x), Due.all(busyWithTape()));
        }
        for (String text : new String[] {"8 END!", "3" + ROW_OF_45}) {
            Used x = busyAndLong();
            x.list(0);
            int answer = text.length() < 40 ? -6 : TapedLines.FULL;
            due.same("enter of " + text, Due.enter(x, text), answer);
            due.same("the page with " + answer, Due.page(x), "1 a=5");
            due.same("the state with " + answer, x.state(), TapedLines.RUNNING);
            due.same("the place with " + answer, x.place(), 4);
            due.same("a with " + answer, x.variable(0), 5);
            due.same("cell 1 with " + answer, x.cell(1), 6);
            due.same("the output with " + answer, Due.output(x), "5 ");
            due.same("the tape with " + answer, x.waves(), 106);
            due.same("it runs on with " + answer, x.run(2), 2);
            due.same("there", x.place(), 6);
            x.run(9);
            due.same("stopped", x.state(), 17);
            due.same("again, stopped, " + text, Due.enter(x, text), answer);
            due.same("still stopped", x.state(), 17);
            due.same("at its place", x.place(), 6);
        }
        // To ask for 200 bytes, too, would be too many calls for the object above.
        Used full = Due.with200();
        Due.enter(full, "3 ?\"" + "y".repeat(46) + "\"");
        due.same("the program with FULL", Due.bytes(full), Due.bytes(Due.with200()));
        Used y = Due.started("1 END");
        y.run(1);
        Due.enter(y, "0");
        due.same("still ended", y.state(), TapedLines.ENDED);
    }

    private static Used busyWithTape() {
        Used x = new Used();
        // A tape of few half-waves, so that all of them can be asked.
        x.save();
        for (String line : new String[] {"1 a=5", "2 @(1)=6", "3 ?a", "4 GOTO 4"}) {
            Due.enter(x, line);
        }
        x.start();
        x.run(3);
        return x;
    }

    /** Run as far as line 4 of a program with 196 bytes; line 6 will have no room for its output. */
    private static Used busyAndLong() {
        Used x = new Used();
        x.save();
        for (String line : new String[] {"1 a=5", "2 @(1)=6", "3 ?a", "4" + ROW_OF_45, "5" + ROW_OF_45, "6" + ROW_OF_45,
            "7 ?\"" + "x".repeat(24) + "\""}) {
            Due.enter(x, line);
        }
        x.start();
        x.run(3);
        return x;
    }

    private static void stopsTheRun() {
        due.sentence("Promise 4: enter", "otherwise nothing runs then: IDLE");
        for (String text : new String[] {"1 b=1", "9 END", "9", "2"}) {
            Used x = Due.started("1 a=7", "2 @(3)=a", "3 ?a", "4 a=1/0");
            Due.enter(x, text);
            due.same("just started, idle behind " + text, x.state(), TapedLines.IDLE);
            due.same("nowhere", x.place(), TapedLines.NONE);
            due.throwsThat("run", IllegalStateException.class, () -> x.run(1));
            Used y = Due.started("1 a=7", "2 @(3)=a", "3 ?a", "4 a=1/0");
            y.run(9);
            Due.enter(y, text);
            due.same("stopped, idle behind " + text, y.state(), TapedLines.IDLE);
            due.same("nowhere", y.place(), TapedLines.NONE);
            due.same("variables stay", y.variable(0), 7);
            due.same("cells stay", y.cell(3), 7);
            due.same("output stays", Due.output(y), "7 ");
        }
        Used z = Due.started("1 END");
        z.run(1);
        Due.enter(z, "1 END");
        due.same("ended, idle then", z.state(), TapedLines.IDLE);
    }
}
