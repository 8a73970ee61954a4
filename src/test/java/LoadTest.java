/** Terms: TAPE with LOADING; promise 16 load. */
public final class LoadTest {
    // A line END: 156 half-waves.
    private static final String END_BYTES = Tapes.bytes(Tapes.summed(1, 1, 135));

    private static final Due due = new Due();

    public static void main(String[] args) {
        longAbove8();
        tornBits();
        passesOver();
        byteWithoutEnd();
        endsBefore();
        behindTheLastByte();
        tornBeforeWrong();
        anotherSum();
        noProgram();
        loads();
        nothingRuns();
        nothingChanges();
        due.end();
    }

    private static void loads(String what, String row, int want) {
        due.same("load of " + what, Tapes.longTapeWith(row).load(), want);
    }

    private static void longAbove8() {
        due.sentence("Terms", "LOADING: a half-wave is LONG if it is above 8.");
        TapedLines x = Due.with("1 END");
        x.save();
        String row = Due.waves(x);
        for (int length = 1; length <= 100; length++) {
            setAll(x, row, 'L', length);
            due.same("long ones of " + length, x.load(), length > 8 ? 1 : TapedLines.TORN);
        }
        for (int length = 1; length <= 100; length++) {
            setAll(x, row, 'S', length);
            due.same("short ones of " + length, x.load(), length > 8 ? TapedLines.TORN : 1);
        }
    }

    private static void setAll(TapedLines x, String row, char kind, int length) {
        for (int k = 0; k < row.length(); k++) {
            if (row.charAt(k) == kind) {
                x.setWave(k, length);
            }
        }
    }

    private static void tornBits() {
        due.sentence("Terms", "Bits are read from the beginning: what is neither two LONG nor four SHORT half-waves"
                + " is TORN.");
        TapedLines x = Due.with("1 END");
        int size = x.save();
        String row = Due.waves(x);
        for (int k = 0; k < size; k++) {
            int was = x.setWave(k, row.charAt(k) == 'L' ? 8 : 9);
            due.same("half-wave " + k + " turned", x.load(), TapedLines.TORN);
            x.setWave(k, was);
        }
        due.same("none turned", x.load(), 1);
        for (String bit : new String[] {"LS", "LSSS", "LSLL", "SL", "SLSS", "SLLL", "SSL", "SSLL", "SSLS", "SSSL"}) {
            loads(bit + " at the beginning", bit + END_BYTES, TapedLines.TORN);
            loads(bit + " before a byte", "SSSS" + bit + END_BYTES, TapedLines.TORN);
            loads(bit + " in a byte", "LL" + bit + END_BYTES, TapedLines.TORN);
            loads(bit + " between bytes", Tapes.bytes(3) + bit + END_BYTES.substring(26), TapedLines.TORN);
            String cut = END_BYTES.substring(0, END_BYTES.length() - 4);
            loads(bit + " at the end", cut + bit + "SSSSSSSS", TapedLines.TORN);
        }
    }

    private static void passesOver() {
        due.sentence("Terms", "Bits 1 before a byte are passed over.");
        for (int ones : new int[] {0, 1, 2, 9, 10, 11, 100, 1000}) {
            loads(ones + " bits 1 before", "SSSS".repeat(ones) + END_BYTES, 1);
        }
        StringBuilder between = new StringBuilder();
        int more = 1;
        for (int value : Tapes.summed(1, 1, 135)) {
            between.append("SSSS".repeat(more)).append(Tapes.bytes(value));
            more += 3;
        }
        loads("bits 1 before each byte", between.toString(), 1);
        // Within a byte they are its bits.
        loads("255 and no more", Tapes.bytes(255), TapedLines.TORN);
    }

    private static void byteWithoutEnd() {
        due.sentence("Terms", "TORN, too: a byte without its bit 1 at the end");
        int[] bytes = Tapes.summed(1, 1, 135);
        for (int broken = 0; broken < bytes.length; broken++) {
            StringBuilder row = new StringBuilder();
            for (int k = 0; k < bytes.length; k++) {
                row.append("LL").append(Tapes.eightBits(bytes[k])).append(k == broken ? "LL" : "SSSS");
            }
            loads("byte " + broken + " with a bit 0 at its end", row.toString(), TapedLines.TORN);
            loads("the same with bits 1 behind", row + "SSSS".repeat(9), TapedLines.TORN);
        }
        loads("all with their ends", END_BYTES, 1);
        int[] wrong = {3, 1, 1, 135, 0, 0};
        StringBuilder row = new StringBuilder(Tapes.bytes(wrong));
        row.setLength(row.length() - 4);
        loads("a wrong sum without its end", row + "LLLL", TapedLines.TORN);
    }

    private static void endsBefore() {
        due.sentence("Terms", "a tape that ends before the last byte");
        due.same("an empty tape", new TapedLines().load(), TapedLines.TORN);
        // Tapes of 196 and 198 half-waves; END with bits 1 before it is so many half-waves too long for them.
        for (String line : new String[] {"1 END", "2 END"}) {
            for (int cut = -2; cut <= 156; cut++) {
                TapedLines x = Due.with(line);
                int ones = x.save() + cut - END_BYTES.length();
                if (ones % 4 == 0) {
                    String row = "S".repeat(ones) + END_BYTES;
                    Tapes.put(x, row.substring(0, Math.min(row.length(), x.waves())));
                    due.same(line + " cut by " + cut, x.load(), cut <= 0 ? 1 : TapedLines.TORN);
                }
            }
        }
        TapedLines y = new TapedLines();
        y.save();
        Tapes.put(y, "S".repeat(106));
        due.same("bits 1 alone", y.load(), TapedLines.TORN);
        Tapes.put(y, "S".repeat(104) + "LL");
        due.same("the beginning of a byte alone", y.load(), TapedLines.TORN);
        Tapes.put(y, "S".repeat(40) + Tapes.bytes(0) + "S".repeat(44));
        due.same("no sum", y.load(), TapedLines.TORN);
        Tapes.put(y, "S".repeat(60) + Tapes.bytes(0, 0) + "SS");
        due.same("half a sum", y.load(), TapedLines.TORN);
        Tapes.put(y, Tapes.tapeOf(1, 0) + "LLLL" + "SSSS".repeat(4));
        due.same("fewer bytes than it tells", y.load(), TapedLines.TORN);
        int[] many = new int[101];
        java.util.Arrays.fill(many, 255);
        due.same("255 bytes are told, fewer are there", Tapes.loadOf(many), TapedLines.TORN);
    }

    private static void behindTheLastByte() {
        due.sentence("Terms", "(What stands behind it is not looked at.)");
        for (String behind : new String[] {"", "L", "S", "LS", "LSLSLSLSLS", "SSSL", "LLLLLLLLLLLLLLLLLLLLLLLL", "SSSSSSSS",
            Tapes.bytes(99), Tapes.bytes(0, 0, 0)}) {
            loads("END with " + behind + " behind", END_BYTES + behind, 1);
            loads("nothing with " + behind + " behind", Tapes.bytes(0, 0, 0) + behind, 0);
        }
    }

    private static void tornBeforeWrong() {
        due.sentence("Terms", "Otherwise WRONG");
        loads("a wrong sum", Tapes.bytes(3, 1, 1, 135, 0, 0), TapedLines.WRONG);
        loads("a wrong sum, torn", Tapes.bytes(3, 1, 1, 135, 0) + "LLLS", TapedLines.TORN);
        loads("no program", Tapes.bytes(Tapes.summed(1, 1, 134)), TapedLines.WRONG);
        loads("no program, torn", Tapes.bytes(5, 1, 1, 134, 0) + "SSSL", TapedLines.TORN);
        loads("too many bytes, torn", Tapes.bytes(201, 1, 1, 134, 0) + "SSSL", TapedLines.TORN);
    }

    private static void anotherSum() {
        due.sentence("Terms", "the sum is another one");
        int[] right = Tapes.summed(1, 3, 'a', '=', '1');
        due.same("the right one", Tapes.loadOf(right), 1);
        for (int k = 6; k <= 7; k++) {
            for (int by : new int[] {1, 255, 128, 16}) {
                int[] bytes = right.clone();
                bytes[k] = (bytes[k] + by) % 256;
                due.same("byte " + k + " of the tape and " + by, Tapes.loadOf(bytes), TapedLines.WRONG);
            }
        }
        int[] turned = right.clone();
        turned[6] = right[7];
        turned[7] = right[6];
        due.same("the lower byte first", Tapes.loadOf(turned), TapedLines.WRONG);
        int[] other = right.clone();
        other[5] = '2';
        due.same("another program", Tapes.loadOf(other), TapedLines.WRONG);
        int[] swapped = Tapes.summed(1, 4, 'a', '=', '1', '2');
        swapped[5] = '2';
        swapped[6] = '1';
        due.same("the same bytes in another order", Tapes.loadOf(swapped), TapedLines.WRONG);
        due.same("1 for nothing", Tapes.loadOf(0, 0, 1), TapedLines.WRONG);
        due.same("256 for nothing", Tapes.loadOf(0, 1, 0), TapedLines.WRONG);
        due.same("0 for nothing", Tapes.loadOf(0, 0, 0), 0);
        TapedLines x = Tapes.longTape();
        due.same("a sum that wraps", x.load(), 4);
    }

    private static void wrong(String what, int... program) {
        due.same(what, Tapes.loadOf(Tapes.summed(program)), TapedLines.WRONG);
    }

    private static void right(String what, int want, int... program) {
        due.same(what, Tapes.loadOf(Tapes.summed(program)), want);
    }

    private static void noProgram() {
        due.sentence("Terms", "or the bytes are no program");
        noNumbers();
        noStatements();
        noCharacters();
        noSizes();
        notEndedByTheSum();
        notLikeTheLineBefore();
    }

    private static void noNumbers() {
        wrong("number 0", 0, 1, 135);
        right("number 1", 1, 1, 1, 135);
        right("number 99", 1, 99, 1, 135);
        wrong("number 100", 100, 1, 135);
        wrong("number 255", 255, 1, 135);
        right("rising numbers", 2, 5, 1, 135, 6, 1, 135);
        wrong("the same number twice", 5, 1, 135, 5, 1, 135);
        wrong("falling numbers", 6, 1, 135, 5, 1, 135);
        wrong("a second number 0", 6, 1, 135, 0, 1, 135);
        wrong("a second number 100", 6, 1, 135, 100, 1, 135);
        wrong("a third that is not above the second", 5, 1, 135, 7, 1, 135, 6, 1, 135);
    }

    private static void noStatements() {
        wrong("a number alone", 5);
        wrong("a number alone behind a line", 5, 1, 135, 6);
        wrong("a line without bytes", 5, 0);
        wrong("a line without bytes before another", 5, 0, 6, 1, 135);
        wrong("a line without bytes behind another", 5, 1, 135, 6, 0);
        wrong("fewer bytes than told", 5, 2, 135);
        wrong("far fewer bytes than told", 5, 255, 135);
        wrong("more bytes than told", 5, 1, 135, 135);
        wrong("two statements", 5, 2, 135, 135);
        wrong("half a statement", 5, 2, 'a', '=');
        wrong("a statement that the next line would end", 5, 2, 'a', '=', 49, 1, 135);
        wrong("a space", 5, 4, 'a', ' ', '=', '1');
        wrong("a space before", 5, 4, ' ', 'a', '=', '1');
        wrong("a space at the end", 5, 4, 'a', '=', '1', ' ');
        wrong("a spelled word", 5, 3, 'E', 'N', 'D');
        wrong("a spelled word within", 5, 7, 131, 'a', 'G', 'O', 'T', 'O', '5');
        wrong("a needless zero", 5, 4, 'a', '=', '0', '1');
        wrong("too large a constant", 5, 7, 'a', '=', '3', '2', '7', '6', '8');
        right("the largest constant", 1, 5, 7, 'a', '=', '3', '2', '7', '6', '7');
        wrong("GOTO 0", 5, 2, 128, '0');
        wrong("GOTO 100", 5, 4, 128, '1', '0', '0');
        right("GOTO 99, though there is no such line", 1, 5, 3, 128, '9', '9');
        wrong("GOTO alone", 5, 1, 128);
        wrong("TO alone", 5, 1, 133);
        wrong("FOR without TO", 5, 4, 132, 'a', '=', '1');
        wrong("variable i", 5, 3, 'i', '=', '1');
        wrong("five deep", 5, 11, 'a', '=', '(', '(', '(', '(', '1', ')', ')', ')', ')');
        right("four deep", 1, 5, 9, 'a', '=', '(', '(', '(', '1', ')', ')', ')');
    }

    private static void noCharacters() {
        for (int code = 0; code <= 255; code++) {
            boolean can = code >= 32 && code <= 126 && code != '"';
            int[] program = {5, 4, '?', '"', code, '"'};
            due.same("byte " + code + " between quotes", Tapes.loadOf(Tapes.summed(program)), can ? 1 : TapedLines.WRONG);
            boolean alone = code == 130 || code == 135;
            due.same("byte " + code + " alone", Tapes.loadOf(Tapes.summed(5, 1, code)), alone ? 1 : TapedLines.WRONG);
        }
        right("an empty row", 1, 5, 3, '?', '"', '"');
        right("spaces between quotes", 1, 5, 5, '?', '"', ' ', ' ', '"');
        wrong("quotes that stay open", 5, 3, '?', '"', 'a');
        wrong("a quote alone", 5, 2, '?', '"');
        // Spelled out, the word would have as many characters as the spaces and it have bytes.
        wrong("a word between quotes, with spaces before", 5, 9, '?', ' ', ' ', ' ', ' ', ' ', '"', 128, '"');
    }

    private static void noSizes() {
        right("none", 0);
        right("one statement of 198 bytes", 1, Tapes.oneLineOf(200));
        for (int size : new int[] {201, 202, 240, 255}) {
            wrong(size + " bytes", Tapes.oneLineOf(size));
        }
        right("66 lines", 66, ends(66));
        wrong("67 lines", ends(67));
        wrong("80 lines", ends(80));
        int[] words = new int[200];
        java.util.Arrays.fill(words, 130);
        words[0] = 1;
        words[1] = 198;
        wrong("198 words", words);
        wrong("255 bytes 0", new int[255]);
    }

    /** A last statement that tells one byte more than there is, where the sum's first byte is a digit that would end it. */
    private static void notEndedByTheSum() {
        int found = 0;
        for (int size = 20; size < 190; size++) {
            int[] program = java.util.Arrays.copyOf(Tapes.oneLineOf(size), size + 4);
            System.arraycopy(new int[] {50, 3, 'a', '='}, 0, program, size, 4);
            int digit = Tapes.summed(program)[program.length + 1];
            if (digit >= '0' && digit <= '9') {
                wrong("half a statement before the digit " + (char) digit, program);
                found++;
            }
        }
        due.holds("some sums begin with a digit", found > 0);
    }

    private static void notLikeTheLineBefore() {
        wrong("a space at the end, where the line before has one",
                5, 6, '?', '"', 'a', ' ', 'b', '"', 6, 4, 'a', '=', '1', ' ');
        wrong("half a statement, where the line before goes on",
                5, 5, 'a', '=', 'b', '+', '1', 6, 4, 'a', '=', 'b', '+');
        wrong("nothing, where the line before has END", 5, 1, 135, 6, 0);
    }

    private static int[] ends(int lines) {
        int[] program = new int[3 * lines];
        for (int k = 0; k < lines; k++) {
            program[3 * k] = k + 1;
            program[3 * k + 1] = 1;
            program[3 * k + 2] = 135;
        }
        return program;
    }

    private static void loads() {
        due.sentence("Promise 16: load", "LOADING: how many lines there are then, in the place of the old program");
        TapedLines x = Due.with("10 FOR a=1 TO 5", "20 ?\" x \"", "30 @(((-a)))=1<2", "40 IF a GOTO 1");
        String bytes = Due.bytes(x);
        x.save();
        Due.enter(x, "20");
        Due.enter(x, "5 b=7");
        Due.enter(x, "99 b=7");
        due.same("load", x.load(), 4);
        due.same("lines", x.lines(), 4);
        due.same("bytes", Due.bytes(x), bytes);
        due.same("listed", Due.listing(x, 1), "20 ?\" x \"");
        due.same("the tape stays", x.load(), 4);
        due.same("it wobbles", loadWobbled(x, 25), 4);
        TapedLines y = new TapedLines();
        y.save();
        Due.enter(y, "1 END");
        due.same("load of nothing", y.load(), 0);
        due.same("no line", y.lines(), 0);
        due.same("no byte", Due.bytes(y), "");
        TapedLines z = Tapes.longTapeWith(END_BYTES);
        due.same("a short one in the place of a long one", z.load(), 1);
        due.same("bytes", Due.bytes(z), "\u0001\u0001\u0087");
        z.start();
        due.same("it runs", z.run(9), 1);
        due.same("and there is room again", Due.enter(z, "2 END"), 6);
    }

    // 12 becomes 9 .. 15 and 6 becomes 4 .. 7.
    private static int loadWobbled(TapedLines x, int percent) {
        x.wobble(-5, percent);
        return x.load();
    }

    private static void nothingRuns() {
        due.sentence("Promise 16: load", "and nothing runs");
        String[][] programs = {{"1 a=7", "2 ?a", "3 @(0)=a", "4 GOTO 4"}, {"1 a=7", "2 ?a", "3 @(0)=a", "4 END"},
            {"1 a=7", "2 ?a", "3 @(0)=a", "4 RETURN"}};
        for (String[] program : programs) {
            TapedLines x = Due.started(program);
            x.save();
            x.run(9);
            x.list(3);
            String page = Due.page(x);
            Due.type(x, "123");
            due.same("load", x.load(), 4);
            due.same("idle", x.state(), TapedLines.IDLE);
            due.same("nowhere", x.place(), TapedLines.NONE);
            due.throwsThat("run", IllegalStateException.class, () -> x.run(1));
            due.same("variables stay", x.variable(0), 7);
            due.same("cells stay", x.cell(0), 7);
            due.same("the text stays", x.wipe(), 3);
            due.same("the page stays", Due.page(x), page);
            due.same("the output stays", Due.output(x), "7 ");
        }
        TapedLines y = new TapedLines();
        y.save();
        y.start();
        due.same("load of nothing", y.load(), 0);
        due.same("idle", y.state(), TapedLines.IDLE);
    }

    private static void nothingChanges() {
        due.sentence("Promise 16: load", "TORN or WRONG (and nothing changes)");
        stays("an empty tape is torn", null, TapedLines.TORN);
        stays("torn", "LS" + END_BYTES, TapedLines.TORN);
        stays("torn at the end", END_BYTES.substring(0, 152) + "LLLL", TapedLines.TORN);
        stays("another sum", Tapes.bytes(3, 1, 1, 135, 0, 0), TapedLines.WRONG);
        stays("no program", Tapes.bytes(Tapes.summed(1, 1, 134)), TapedLines.WRONG);
        stays("a line, and another that is none", Tapes.bytes(Tapes.summed(1, 1, 135, 2, 1, 134)), TapedLines.WRONG);
    }

    private static void stays(String what, String row, int answer) {
        TapedLines x = Due.with("1 FOR a=1 TO 9", "2 GOSUB 4", "3 END", "4 ?a", "5 NEXT a", "6 @(2)=a", "7 RETURN");
        if (row != null) {
            x.save();
            Tapes.put(x, row);
        }
        x.start();
        x.run(4);
        String before = Due.all(x);
        x.list(0);
        Due.type(x, "123");
        due.same(what, x.load(), answer);
        due.same("the page behind " + what, Due.page(x), "1 FOR a=1 TO 9");
        due.same("the text behind " + what, x.wipe(), 3);
        due.same("all else behind " + what, Due.all(x), before);
        // Its loop and its return are still there: 2, 4 and 5 five times more, then six returns are kept.
        due.same("it runs on behind " + what, x.run(1000), 15);
        due.same("as far as it would behind " + what, x.state(), 14);
        due.same(what + " when stopped", x.load(), answer);
        due.same("still stopped behind " + what, x.state(), 14);
        due.same("at its place behind " + what, x.place(), 2);
    }
}
