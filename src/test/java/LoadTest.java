/** Terms: TAPE with LOADING; promise 16 load. */
public final class LoadTest {
    // A line END: 156 half-waves, behind ten bits 1.
    private static final String END_BYTES = Tapes.bytes(Tapes.summed(1, 1, 135));
    private static final String END_TAPE = Tapes.tapeOf(Tapes.summed(1, 1, 135));

    private static final Due due = new Due();

    public static void main(String[] args) {
        longAbove8();
        tornBits();
        passesOver();
        byteWithoutEnd();
        endsBefore();
        behindTheLastByte();
        tornBeforeWrong();
        anotherSum();
        noProgram();
        loads();
        nothingRuns();
        nothingChanges();
        due.end();
    }

    private static void loads(String what, String row, int want) {
        due.same("load of " + what, Tapes.beginningWith(row).load(), want);
    }

    /** A line END on tape as it is saved. */
    private static Used saved() {
        Used x = Due.with("1 END");
        x.save();
        return x;
    }

    private static void longAbove8() {
        due.sentence("Terms", "LOADING: a half-wave is LONG if it is above 8.");
        for (int length = 1; length <= 100; length++) {
            due.same("long ones of " + length, loadWithAll('L', length), length > 8 ? 1 : TapedLines.TORN);
            due.same("short ones of " + length, loadWithAll('S', length), length > 8 ? TapedLines.TORN : 1);
        }
    }

    private static int loadWithAll(char kind, int length) {
        Used x = saved();
        for (int k = 0; k < END_TAPE.length(); k++) {
            if (END_TAPE.charAt(k) == kind) {
                x.setWave(k, length);
            }
        }
        return x.load();
    }

    private static void tornBits() {
        due.sentence("Terms", "Bits are read from the beginning: what is neither two LONG nor four SHORT half-waves"
                + " is TORN.");
        for (int k = 0; k < END_TAPE.length(); k++) {
            Used x = saved();
            int was = x.setWave(k, END_TAPE.charAt(k) == 'L' ? 8 : 9);
            due.same("half-wave " + k + " turned", x.load(), TapedLines.TORN);
            x.setWave(k, was);
            due.same("half-wave " + k + " turned back", x.load(), 1);
        }
        for (String bit : new String[] {"LS", "LSSS", "LSLL", "SL", "SLSS", "SLLL", "SSL", "SSLL", "SSLS", "SSSL"}) {
            loads(bit + " at the beginning", bit + END_BYTES, TapedLines.TORN);
            loads(bit + " before a byte", "SSSS" + bit + END_BYTES, TapedLines.TORN);
            loads(bit + " in a byte", "LL" + bit + END_BYTES, TapedLines.TORN);
            loads(bit + " between bytes", Tapes.bytes(3) + bit + END_BYTES.substring(26), TapedLines.TORN);
            String cut = END_BYTES.substring(0, END_BYTES.length() - 4);
            loads(bit + " at the end", cut + bit + "SSSSSSSS", TapedLines.TORN);
        }
    }

    private static void passesOver() {
        due.sentence("Terms", "Bits 1 before a byte are passed over.");
        for (int ones : new int[] {0, 1, 2, 9, 10, 11, 100}) {
            loads(ones + " bits 1 before", "SSSS".repeat(ones) + END_BYTES, 1);
        }
        String many = "SSSS".repeat(1000);
        Used far = Tapes.allShort(4000 + END_BYTES.length());
        Tapes.change(far, many + "S".repeat(END_BYTES.length()), many + END_BYTES);
        due.same("1000 bits 1 before", far.load(), 1);
        StringBuilder between = new StringBuilder();
        int more = 1;
        for (int value : Tapes.summed(1, 1, 135)) {
            between.append("SSSS".repeat(more)).append(Tapes.bytes(value));
            more += 3;
        }
        loads("bits 1 before each byte", between.toString(), 1);
        // Within a byte they are its bits.
        loads("255 and no more", Tapes.bytes(255), TapedLines.TORN);
    }

    private static void byteWithoutEnd() {
        due.sentence("Terms", "TORN, too: a byte without its bit 1 at the end");
        int[] bytes = Tapes.summed(1, 1, 135);
        for (int broken = 0; broken < bytes.length; broken++) {
            StringBuilder row = new StringBuilder();
            for (int k = 0; k < bytes.length; k++) {
                row.append("LL").append(Tapes.eightBits(bytes[k])).append(k == broken ? "LL" : "SSSS");
            }
            loads("byte " + broken + " with a bit 0 at its end", row.toString(), TapedLines.TORN);
            loads("the same with bits 1 behind", row + "SSSS".repeat(9), TapedLines.TORN);
        }
        loads("all with their ends", END_BYTES, 1);
        int[] wrong = {3, 1, 1, 135, 0, 0};
        StringBuilder row = new StringBuilder(Tapes.bytes(wrong));
        row.setLength(row.length() - 4);
        loads("a wrong sum without its end", row + "LLLL", TapedLines.TORN);
    }

    private static void endsBefore() {
        due.sentence("Terms", "a tape that ends before the last byte");
        due.same("an empty tape", new Used().load(), TapedLines.TORN);
        // Tapes of 196 and 198 half-waves; END with bits 1 before it is so many half-waves too long for them.
        for (int number = 1; number <= 2; number++) {
            String tape = Tapes.tapeOf(Tapes.summed(number, 1, 135));
            due.same("half-waves of line " + number, tape.length(), 194 + 2 * number);
            for (int cut = -2; cut <= 156; cut++) {
                int ones = tape.length() + cut - END_BYTES.length();
                if (ones % 4 == 0) {
                    String row = "S".repeat(ones) + END_BYTES;
                    Used x = Due.with(number + "END");
                    due.same("save of " + number, x.save(), tape.length());
                    Tapes.change(x, tape, row.substring(0, Math.min(row.length(), tape.length())));
                    due.same(number + " cut by " + cut, x.load(), cut <= 0 ? 1 : TapedLines.TORN);
                }
            }
        }
        tornEmpty("bits 1 alone", "S".repeat(106));
        tornEmpty("the beginning of a byte alone", "S".repeat(104) + "LL");
        tornEmpty("no sum", "S".repeat(40) + Tapes.bytes(0) + "S".repeat(44));
        tornEmpty("half a sum", "S".repeat(60) + Tapes.bytes(0, 0) + "SS");
        tornEmpty("fewer bytes than it tells", Tapes.tapeOf(1, 0) + "LLLL" + "SSSS".repeat(4));
        tornEmpty("255 bytes are told, one is there", Tapes.tapeOf(255, 7));
    }

    /** The tape of no lines, which has 106 half-waves, is torn with this row on it. */
    private static void tornEmpty(String what, String row) {
        due.same("half-waves of " + what, row.length(), 106);
        loads(what, row, TapedLines.TORN);
    }

    private static void behindTheLastByte() {
        due.sentence("Terms", "(What stands behind it is not looked at.)");
        for (String behind : new String[] {"", "L", "S", "LS", "LSLSLSLSLS", "SSSL", "LLLLLLLLLLLLLLLLLLLLLLLL", "SSSSSSSS",
            Tapes.bytes(99), Tapes.bytes(0, 0, 0)}) {
            loads("END with " + behind + " behind", END_BYTES + behind, 1);
            loads("nothing with " + behind + " behind", Tapes.bytes(0, 0, 0) + behind, 0);
        }
    }

    private static void tornBeforeWrong() {
        due.sentence("Terms", "Otherwise WRONG");
        loads("a wrong sum", Tapes.bytes(3, 1, 1, 135, 0, 0), TapedLines.WRONG);
        loads("a wrong sum, torn", Tapes.bytes(3, 1, 1, 135, 0) + "LLLS", TapedLines.TORN);
        loads("no program", Tapes.bytes(Tapes.summed(1, 1, 134)), TapedLines.WRONG);
        loads("no program, torn", Tapes.bytes(5, 1, 1, 134, 0) + "SSSL", TapedLines.TORN);
        loads("too many bytes, torn", Tapes.bytes(201, 1, 1, 134, 0) + "SSSL", TapedLines.TORN);
    }

    private static void anotherSum() {
        due.sentence("Terms", "the sum is another one");
        int[] right = Tapes.summed(1, 3, 'a', '=', '1');
        due.same("the right one", Tapes.loadOf(right), 1);
        for (int k = 6; k <= 7; k++) {
            for (int by : new int[] {1, 255, 128, 16}) {
                int[] bytes = right.clone();
                bytes[k] = (bytes[k] + by) % 256;
                due.same("byte " + k + " of the tape and " + by, Tapes.loadOf(bytes), TapedLines.WRONG);
            }
        }
        int[] turned = right.clone();
        turned[6] = right[7];
        turned[7] = right[6];
        due.same("the lower byte first", Tapes.loadOf(turned), TapedLines.WRONG);
        int[] other = right.clone();
        other[5] = '2';
        due.same("another program", Tapes.loadOf(other), TapedLines.WRONG);
        int[] swapped = Tapes.summed(1, 4, 'a', '=', '1', '2');
        swapped[5] = '2';
        swapped[6] = '1';
        due.same("the same bytes in another order", Tapes.loadOf(swapped), TapedLines.WRONG);
        due.same("1 for nothing", Tapes.loadOf(0, 0, 1), TapedLines.WRONG);
        due.same("256 for nothing", Tapes.loadOf(0, 1, 0), TapedLines.WRONG);
        due.same("0 for nothing", Tapes.loadOf(0, 0, 0), 0);
        Used x = Due.with200();
        x.save();
        due.same("a sum that wraps", x.load(), 4);
    }

    private static void wrong(String what, int... program) {
        due.same(what, Tapes.loadOf(Tapes.summed(program)), TapedLines.WRONG);
    }

    private static void right(String what, int want, int... program) {
        due.same(what, Tapes.loadOf(Tapes.summed(program)), want);
    }

    private static void noProgram() {
        due.sentence("Terms", "or the bytes are no program");
        noNumbers();
        noStatements();
        noCharacters();
        noSizes();
        notEndedByTheSum();
        notLikeTheLineBefore();
    }

    private static void noNumbers() {
        wrong("number 0", 0, 1, 135);
        right("number 1", 1, 1, 1, 135);
        right("number 99", 1, 99, 1, 135);
        wrong("number 100", 100, 1, 135);
        wrong("number 255", 255, 1, 135);
        right("rising numbers", 2, 5, 1, 135, 6, 1, 135);
        wrong("the same number twice", 5, 1, 135, 5, 1, 135);
        wrong("falling numbers", 6, 1, 135, 5, 1, 135);
        wrong("a second number 0", 6, 1, 135, 0, 1, 135);
        wrong("a second number 100", 6, 1, 135, 100, 1, 135);
        wrong("a third that is not above the second", 5, 1, 135, 7, 1, 135, 6, 1, 135);
    }

    private static void noStatements() {
        wrong("a number alone", 5);
        wrong("a number alone behind a line", 5, 1, 135, 6);
        wrong("a line without bytes", 5, 0);
        wrong("a line without bytes before another", 5, 0, 6, 1, 135);
        wrong("a line without bytes behind another", 5, 1, 135, 6, 0);
        wrong("fewer bytes than told", 5, 2, 135);
        wrong("far fewer bytes than told", 5, 255, 135);
        wrong("more bytes than told", 5, 1, 135, 135);
        wrong("two statements", 5, 2, 135, 135);
        wrong("half a statement", 5, 2, 'a', '=');
        wrong("a statement that the next line would end", 5, 2, 'a', '=', 49, 1, 135);
        wrong("a space", 5, 4, 'a', ' ', '=', '1');
        wrong("a space before", 5, 4, ' ', 'a', '=', '1');
        wrong("a space at the end", 5, 4, 'a', '=', '1', ' ');
        wrong("a spelled word", 5, 3, 'E', 'N', 'D');
        wrong("a spelled word within", 5, 7, 131, 'a', 'G', 'O', 'T', 'O', '5');
        wrong("a needless zero", 5, 4, 'a', '=', '0', '1');
        wrong("too large a constant", 5, 7, 'a', '=', '3', '2', '7', '6', '8');
        right("the largest constant", 1, 5, 7, 'a', '=', '3', '2', '7', '6', '7');
        wrong("GOTO 0", 5, 2, 128, '0');
        wrong("GOTO 100", 5, 4, 128, '1', '0', '0');
        right("GOTO 99, though there is no such line", 1, 5, 3, 128, '9', '9');
        wrong("GOTO alone", 5, 1, 128);
        wrong("TO alone", 5, 1, 133);
        wrong("FOR without TO", 5, 4, 132, 'a', '=', '1');
        wrong("variable i", 5, 3, 'i', '=', '1');
        wrong("five deep", 5, 11, 'a', '=', '(', '(', '(', '(', '1', ')', ')', ')', ')');
        right("four deep", 1, 5, 9, 'a', '=', '(', '(', '(', '1', ')', ')', ')');
    }

    private static void noCharacters() {
        for (int code = 0; code <= 255; code++) {
            boolean can = code >= 32 && code <= 126 && code != '"';
            int[] program = {5, 4, '?', '"', code, '"'};
            due.same("byte " + code + " between quotes", Tapes.loadOf(Tapes.summed(program)), can ? 1 : TapedLines.WRONG);
            boolean alone = code == 130 || code == 135;
            due.same("byte " + code + " alone", Tapes.loadOf(Tapes.summed(5, 1, code)), alone ? 1 : TapedLines.WRONG);
        }
        right("an empty row", 1, 5, 3, '?', '"', '"');
        right("spaces between quotes", 1, 5, 5, '?', '"', ' ', ' ', '"');
        wrong("quotes that stay open", 5, 3, '?', '"', 'a');
        wrong("a quote alone", 5, 2, '?', '"');
        // Spelled out, the word would have as many characters as the spaces and it have bytes.
        wrong("a word between quotes, with spaces before", 5, 9, '?', ' ', ' ', ' ', ' ', ' ', '"', 128, '"');
    }

    private static void noSizes() {
        right("none", 0);
        due.same("one statement of 198 bytes", LongTapes.withOneStatement().load(), 1);
        due.same("200 bytes", LongTapes.with200().load(), 5);
        due.same("201 bytes", LongTapes.with201().load(), TapedLines.WRONG);
        wrong("words alone", 5, 8, 130, 130, 130, 130, 130, 130, 130, 130);
        wrong("bytes 0 alone", new int[14]);
        Used x = new Used();
        for (int k = 1; k <= 66; k++) {
            Due.enter(x, k + "END");
        }
        x.save();
        due.same("66 lines", x.load(), 66);
    }

    /** A last statement that tells one byte more than there is, where the sum's first byte is a digit that would end it. */
    private static void notEndedByTheSum() {
        int found = 0;
        for (int size = 5; size < 20; size++) {
            String program = "\u0007" + (char) (size - 2) + "?\"" + "~".repeat(size - 5) + "\"2\u0003a=";
            int[] bytes = program.chars().toArray();
            int digit = Tapes.summed(bytes)[bytes.length + 1];
            if (digit >= '0' && digit <= '9') {
                wrong("half a statement before the digit " + (char) digit, bytes);
                found++;
            }
        }
        due.holds("some sums begin with a digit", found > 0);
    }

    private static void notLikeTheLineBefore() {
        wrong("a space at the end, where the line before has one",
                5, 6, '?', '"', 'a', ' ', 'b', '"', 6, 4, 'a', '=', '1', ' ');
        wrong("half a statement, where the line before goes on",
                5, 5, 'a', '=', 'b', '+', '1', 6, 4, 'a', '=', 'b', '+');
        wrong("nothing, where the line before has END", 5, 1, 135, 6, 0);
    }

    private static void loads() {
        due.sentence("Promise 16: load", "LOADING: how many lines there are then, in the place of the old program");
        Used x = Due.with("10 FOR a=1 TO 5", "20 ?\" x \"", "30 @(((-a)))=1<2", "40 IF a GOTO 1");
        String bytes = Due.bytes(x);
        x.save();
        Due.enter(x, "20");
        Due.enter(x, "5 b=7");
        Due.enter(x, "99 b=7");
        due.same("load", x.load(), 4);
        due.same("lines", x.lines(), 4);
        due.same("bytes", Due.bytes(x), bytes);
        due.same("listed", Due.listing(x, 1), "20 ?\" x \"");
        due.same("the tape stays", x.load(), 4);
        due.same("it wobbles", loadWobbled(x, 25), 4);
        Used y = new Used();
        y.save();
        Due.enter(y, "1 END");
        due.same("load of nothing", y.load(), 0);
        due.same("no line", y.lines(), 0);
        due.same("no byte", Due.bytes(y), "");
        Used z = Tapes.beginningWith(END_BYTES + Tapes.bytes(0, 0, 0, 0));
        due.same("a short one in the place of a long one", z.load(), 1);
        due.same("bytes", Due.bytes(z), "\u0001\u0001\u0087");
        z.start();
        due.same("it runs", z.run(9), 1);
        due.same("and there is room again", Due.enter(z, "2 END"), 6);
    }

    // 12 becomes 9 .. 15 and 6 becomes 4 .. 7.
    private static int loadWobbled(Used x, int percent) {
        x.wobble(-5, percent);
        return x.load();
    }

    private static void nothingRuns() {
        due.sentence("Promise 16: load", "and nothing runs");
        String[][] programs = {{"1 a=7", "2 ?a", "3 @(0)=a", "4 GOTO 4"}, {"1 a=7", "2 ?a", "3 @(0)=a", "4 END"},
            {"1 a=7", "2 ?a", "3 @(0)=a", "4 RETURN"}};
        for (String[] program : programs) {
            Used x = Due.started(program);
            x.save();
            x.run(9);
            x.list(3);
            String page = Due.page(x);
            Due.type(x, "123");
            due.same("load", x.load(), 4);
            due.same("idle", x.state(), TapedLines.IDLE);
            due.same("nowhere", x.place(), TapedLines.NONE);
            due.throwsThat("run", IllegalStateException.class, () -> x.run(1));
            due.same("variables stay", x.variable(0), 7);
            due.same("cells stay", x.cell(0), 7);
            due.same("the text stays", x.wipe(), 3);
            due.same("the page stays", Due.page(x), page);
            due.same("the output stays", Due.output(x), "7 ");
        }
        Used y = new Used();
        y.save();
        y.start();
        due.same("load of nothing", y.load(), 0);
        due.same("idle", y.state(), TapedLines.IDLE);
    }

    private static void nothingChanges() {
        due.sentence("Promise 16: load", "TORN or WRONG (and nothing changes)");
        stays("an empty tape is torn", null, TapedLines.TORN);
        stays("torn", "LS" + END_BYTES, TapedLines.TORN);
        stays("torn at the end", END_BYTES.substring(0, 152) + "LLLL", TapedLines.TORN);
        stays("another sum", Tapes.bytes(3, 1, 1, 135, 0, 0), TapedLines.WRONG);
        stays("no program", Tapes.bytes(Tapes.summed(1, 1, 134)), TapedLines.WRONG);
        stays("a line, and a number alone", Tapes.bytes(Tapes.summed(1, 1, 135, 2)), TapedLines.WRONG);
    }

    /** Line 4 has been run with a loop and a return kept; the tape may begin with a row. */
    private static Used busy(String row) {
        Used x = new Used();
        if (row != null) {
            // A tape of few half-waves, so that all of them can be asked.
            x = saved();
            String more = row + END_TAPE.substring(Math.min(row.length(), END_TAPE.length()));
            Tapes.change(x, END_TAPE, more);
        }
        for (String line : new String[] {"1FORa=1TO9", "2GOSUB4", "3END", "4?a", "5NEXTa"}) {
            Due.enter(x, line);
        }
        x.start();
        x.run(4);
        return x;
    }

    private static void stays(String what, String row, int answer) {
        Used x = busy(row);
        due.same(what, x.load(), answer);
        due.same("all else behind " + what, Due.all(x), Due.all(busy(row)));
        Used y = busy(row);
        y.list(0);
        Due.type(y, "123");
        due.same(what + " with a page and a text", y.load(), answer);
        due.same("the page behind " + what, Due.page(y), "1 FOR a=1 TO 9");
        due.same("the text behind " + what, y.wipe(), 3);
        // Its loop and its return are still there: 2, 4 and 5 five times more, then six returns are kept.
        due.same("it runs on behind " + what, y.run(1000), 15);
        due.same("as far as it would behind " + what, y.state(), 14);
        due.same(what + " when stopped", y.load(), answer);
        due.same("still stopped behind " + what, y.state(), 14);
        due.same("at its place behind " + what, y.place(), 2);
    }
}
