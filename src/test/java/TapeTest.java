/** Promises 15 save, 16 load, 17 wobble, 18 waves, 19 wave, 20 setWave. */
public final class TapeTest {
    private static final Due due = new Due();

    public static void main(String[] args) {
        saves();
        saveOfTheLongest();
        loads();
        tears();
        passesOver();
        findsWrong();
        changesNothing();
        wobbles();
        setsWaves();
        due.end();
    }

    private static String bit(int b) {
        return b == 0 ? "LL" : "SSSS";
    }

    private static String byteBits(int value) {
        StringBuilder row = new StringBuilder(bit(0));
        for (int k = 0; k < 8; k++) {
            row.append(bit(value >> k & 1));
        }
        return row.append(bit(1)).toString();
    }

    private static String tapeOf(int... bytes) {
        StringBuilder row = new StringBuilder(bit(1).repeat(10));
        for (int value : bytes) {
            row.append(byteBits(value));
        }
        return row.toString();
    }

    /** A tape with just as many half-waves as the row has, or with some more behind. */
    private static void put(TapedLines x, String row) {
        for (int k = 0; k < row.length(); k++) {
            x.setWave(k, row.charAt(k) == 'L' ? 12 : 6);
        }
    }

    private static void saves() {
        TapedLines x = new TapedLines();
        due.same("save of nothing", x.save(), 40 + 3 * 22);
        due.same("its waves", Due.waves(x), tapeOf(0, 0, 0));
        due.same("a short one", x.wave(0), 6);
        due.same("a long one", x.wave(40), 12);
        Due.enter(x, "10 FOR a=1 TO 5");
        int sum = 10 + 2 * 6 + 3 * 132 + 4 * 'a' + 5 * '=' + 6 * '1' + 7 * 133 + 8 * '5';
        String want = tapeOf(8, 10, 6, 132, 'a', '=', '1', 133, '5', sum / 256, sum % 256);
        due.same("save", x.save(), want.length());
        due.same("waves", x.waves(), want.length());
        due.same("its waves", Due.waves(x), want);
        Due.enter(x, "10");
        due.same("instead of what was there", x.save(), 106);
        due.same("waves", x.waves(), 106);
    }

    private static void saveOfTheLongest() {
        String row = "?\"" + "~".repeat(45) + "\"";
        TapedLines x = Due.with("1" + row, "2" + row, "3" + row, "4" + row);
        int sum = 0;
        int ones = 0;
        String bytes = Due.bytes(x);
        for (int k = 0; k < 200; k++) {
            sum += (k + 1) * bytes.charAt(k);
            ones += Integer.bitCount(bytes.charAt(k));
        }
        due.holds("the sum is above 65535", sum > 65535);
        ones += Integer.bitCount(200) + Integer.bitCount(sum & 65535);
        due.same("save", x.save(), 40 + 203 * 22 + 2 * ones);
        due.same("load", x.load(), 4);
        due.same("the same bytes", Due.bytes(x), bytes);
    }

    private static void loads() {
        TapedLines x = Due.with("10 FOR a=1 TO 5", "20 ?\" x \"", "30 @(((-a)))=1<2", "40 IF a GOTO 1");
        String bytes = Due.bytes(x);
        x.save();
        Due.enter(x, "20");
        Due.enter(x, "5 b=7");
        x.start();
        x.run(1);
        due.same("load", x.load(), 4);
        due.same("bytes", Due.bytes(x), bytes);
        due.same("idle", x.state(), TapedLines.IDLE);
        due.same("nowhere", x.place(), TapedLines.NONE);
        due.same("variables stay", x.variable(1), 7);
        due.same("the tape stays", x.load(), 4);
        TapedLines y = new TapedLines();
        y.save();
        Due.enter(y, "1 END");
        y.start();
        due.same("load of nothing", y.load(), 0);
        due.same("no line", y.lines(), 0);
        due.same("idle", y.state(), TapedLines.IDLE);
    }

    private static void tears() {
        TapedLines x = Due.with("1 END");
        int size = x.save();
        String row = Due.waves(x);
        for (int k = 0; k < size; k++) {
            int was = x.setWave(k, row.charAt(k) == 'L' ? 8 : 9);
            due.same("load with half-wave " + k + " turned", x.load(), TapedLines.TORN);
            x.setWave(k, was);
        }
        due.same("load", x.load(), 1);
        // A last byte without its bit 1: the tape of nothing has four short ones at its end.
        TapedLines y = new TapedLines();
        y.save();
        put(y, tapeOf(0, 0).concat("LL" + "LL".repeat(8) + "LLLL"));
        due.same("a byte without its end", y.load(), TapedLines.TORN);
        put(y, tapeOf(0, 0).concat("LL" + "LL".repeat(8) + "SSSL"));
        due.same("a torn end", y.load(), TapedLines.TORN);
        put(y, tapeOf(0, 0).concat("LL" + "LL".repeat(8) + "SSSS"));
        due.same("mended", y.load(), 0);
        put(y, tapeOf(0).concat("LL" + "LL".repeat(8) + "LL" + "SSSS".repeat(5)));
        due.same("a byte in the middle without its end", y.load(), TapedLines.TORN);
        for (int k = 0; k < 106; k++) {
            y.setWave(k, 8);
        }
        due.same("short ones alone", y.load(), TapedLines.TORN);
        for (int k = 0; k < 106; k++) {
            y.setWave(k, 9);
        }
        due.same("long ones alone", y.load(), TapedLines.TORN);
    }

    private static void passesOver() {
        TapedLines x = Due.with("1 a=1");
        int size = x.save();
        Due.enter(x, "1");
        put(x, "LL" + "LL".repeat(8) + "SSSS" + "SSSS".repeat(7) + byteBits(0) + "SSSS" + byteBits(0) + "LSLSLSLSLS");
        due.same("bits 1 between, none before, and what stands behind", x.load(), 0);
        StringBuilder ones = new StringBuilder("SSSS".repeat(size / 4));
        while (ones.length() < size) {
            ones.append('S');
        }
        put(x, ones.toString());
        due.same("bits 1 alone", x.load(), TapedLines.TORN);
    }

    /** Puts bytes on a tape that is long enough and loads it. */
    private static int loadOf(int... bytes) {
        String row = "?\"" + "~".repeat(45) + "\"";
        TapedLines x = Due.with("1" + row, "2" + row, "3" + row, "4" + row);
        x.save();
        put(x, tapeOf(bytes));
        return x.load();
    }

    private static int[] summed(int... program) {
        int[] bytes = new int[program.length + 3];
        bytes[0] = program.length;
        int sum = 0;
        for (int k = 0; k < program.length; k++) {
            bytes[k + 1] = program[k];
            sum += (k + 1) * program[k];
        }
        bytes[program.length + 1] = sum / 256 % 256;
        bytes[program.length + 2] = sum % 256;
        return bytes;
    }

    private static void wrong(String what, int... program) {
        due.same(what, loadOf(summed(program)), TapedLines.WRONG);
    }

    private static void findsWrong() {
        due.same("a program", loadOf(summed(1, 3, 'a', '=', '1')), 1);
        due.same("two lines", loadOf(summed(1, 3, 'a', '=', '1', 99, 1, 135)), 2);
        due.same("another sum, lower", loadOf(5, 1, 3, 'a', '=', '1', 2, 237), TapedLines.WRONG);
        int[] bytes = summed(1, 3, 'a', '=', '1');
        bytes[6]++;
        due.same("another sum, higher byte", loadOf(bytes), TapedLines.WRONG);
        due.same("a sum for nothing", loadOf(0, 0, 1), TapedLines.WRONG);
        wrong("number 0", 0, 1, 135);
        wrong("number 100", 100, 1, 135);
        wrong("the same number twice", 5, 1, 135, 5, 1, 135);
        wrong("falling numbers", 6, 1, 135, 5, 1, 135);
        wrong("a number alone", 5);
        wrong("a line without bytes", 5, 0);
        wrong("a line without bytes before another", 5, 0, 6, 1, 135);
        wrong("too few bytes", 5, 2, 135);
        wrong("too many bytes", 5, 1, 135, 135);
        wrong("a statement with something behind", 5, 2, 135, 135);
        wrong("a space", 5, 4, 'a', ' ', '=', '1');
        wrong("a space at the end", 5, 4, 'a', '=', '1', ' ');
        wrong("a spelled word", 5, 3, 'E', 'N', 'D');
        wrong("a needless zero", 5, 4, 'a', '=', '0', '1');
        wrong("too large a number", 5, 7, 'a', '=', '3', '2', '7', '6', '8');
        wrong("GOTO 0", 5, 2, 128, '0');
        wrong("GOTO 100", 5, 4, 128, '1', '0', '0');
        wrong("TO", 5, 1, 133);
        wrong("byte 127", 5, 1, 127);
        wrong("byte 136", 5, 1, 136);
        wrong("byte 0 behind", 5, 4, 'a', '=', '1', 0);
        wrong("byte 31 between quotes", 5, 4, '?', '"', 31, '"');
        wrong("byte 127 between quotes", 5, 4, '?', '"', 127, '"');
        wrong("byte 128 between quotes", 5, 4, '?', '"', 128, '"');
        wrong("byte 255 between quotes", 5, 4, '?', '"', 255, '"');
        wrong("five spaces dropped, a word spelled out by five more", 5, 9, '?', ' ', ' ', ' ', ' ', ' ', '"', 128, '"');
        wrong("open quotes", 5, 3, '?', '"', 'a');
        wrong("quotes in quotes", 5, 5, '?', '"', 'a', '"', '"');
        wrong("too deep", 5, 11, 'a', '=', '(', '(', '(', '(', '1', ')', ')', ')', ')');
        due.same("just deep enough", loadOf(summed(5, 9, 'a', '=', '(', '(', '(', '1', ')', ')', ')')), 1);
        due.same("spaces between quotes", loadOf(summed(5, 5, '?', '"', ' ', ' ', '"')), 1);
        sizes();
    }

    private static int[] oneLineOf(int size) {
        int[] program = new int[size];
        java.util.Arrays.fill(program, ' ');
        program[0] = 7;
        program[1] = size - 2;
        program[2] = '?';
        program[3] = '"';
        program[size - 1] = '"';
        return program;
    }

    private static void sizes() {
        due.same("one statement of 198 bytes", loadOf(summed(oneLineOf(200))), 1);
        wrong("201 bytes", oneLineOf(201));
        int[] torn = new int[101];
        java.util.Arrays.fill(torn, 255);
        due.same("255 bytes are told, fewer are there", loadOf(torn), TapedLines.TORN);
        int[] words = new int[200];
        java.util.Arrays.fill(words, 130);
        words[0] = 1;
        words[1] = 198;
        wrong("198 words", words);
        int[] program = new int[255];
        due.same("255 bytes", loadOf(summed(program)), TapedLines.WRONG);
        TapedLines x = Due.with("5 a=1");
        x.save();
        Due.enter(x, "5");
        due.same("load", x.load(), 1);
        due.same("listed", Due.listing(x, 0), "5 a=1");
    }

    private static void changesNothing() {
        TapedLines x = Due.with("1 a=5", "2 ?a", "3 GOTO 2");
        x.save();
        // The bit 0 that begins the first byte, torn.
        x.setWave(40, 1);
        x.start();
        x.run(4);
        String before = Due.all(x);
        due.same("torn", x.load(), TapedLines.TORN);
        due.same("all else", Due.all(x), before);
        put(x, tapeOf(1, 0, 0, 0));
        before = Due.all(x);
        due.same("wrong", x.load(), TapedLines.WRONG);
        due.same("all else", Due.all(x), before);
        due.same("runs on", x.run(2), 2);
    }

    private static void wobbles() {
        TapedLines x = Due.with("1 ?\"wobble\"");
        int size = x.save();
        int[] want = new int[size];
        for (int k = 0; k < size; k++) {
            want[k] = x.wave(k);
        }
        int[][] shakes = {{12345, 25}, {0, 0}, {-1, 10}, {Integer.MIN_VALUE, 50}, {7, 50}, {99, 1}};
        for (int[] shake : shakes) {
            x.wobble(shake[0], shake[1]);
            long seed = shake[0] & 0xFFFFFFFFL;
            for (int k = 0; k < size; k++) {
                seed = (seed * 1103515245L + 12345L) & 0xFFFFFFFFL;
                int percent = (int) (100 - shake[1] + (seed >> 16) % (2 * shake[1] + 1));
                want[k] = Math.min(100, Math.max(1, want[k] * percent / 100));
                due.same("half-wave " + k, x.wave(k), want[k]);
            }
        }
        for (int k = 0; k < size; k++) {
            x.setWave(k, k % 2 == 0 ? 1 : 100);
        }
        x.wobble(5, 50);
        int least = 100;
        int most = 1;
        for (int k = 0; k < size; k++) {
            least = Math.min(least, x.wave(k));
            most = Math.max(most, x.wave(k));
        }
        due.same("at least", least, 1);
        due.same("at most", most, 100);
        due.throwsThat("wobble(1, -1)", IllegalArgumentException.class, () -> x.wobble(1, -1));
        due.throwsThat("wobble(1, 51)", IllegalArgumentException.class, () -> x.wobble(1, 51));
        TapedLines y = new TapedLines();
        due.throwsThat("with an empty tape", IllegalArgumentException.class, () -> y.wobble(1, 51));
        y.wobble(1, 50);
        due.same("nothing to wobble", y.waves(), 0);
        y.save();
        y.wobble(3, 25);
        due.same("a small wobble is no harm", y.load(), 0);
    }

    private static void setsWaves() {
        TapedLines x = new TapedLines();
        due.throwsThat("on an empty tape", IndexOutOfBoundsException.class, () -> x.setWave(0, 0));
        x.save();
        due.same("what it was", x.setWave(105, 100), 6);
        due.same("what it is", x.wave(105), 100);
        due.same("what it was", x.setWave(105, 1), 100);
        due.same("what it is", x.wave(105), 1);
        due.throwsThat("length 0", IllegalArgumentException.class, () -> x.setWave(105, 0));
        due.throwsThat("length 101", IllegalArgumentException.class, () -> x.setWave(105, 101));
        due.throwsThat("behind", IndexOutOfBoundsException.class, () -> x.setWave(106, 6));
        due.throwsThat("behind, and length 0", IndexOutOfBoundsException.class, () -> x.setWave(106, 0));
        due.throwsThat("before, and length 0", IndexOutOfBoundsException.class, () -> x.setWave(-1, 0));
        due.throwsThat("wave(106)", IndexOutOfBoundsException.class, () -> x.wave(106));
        due.throwsThat("wave(-1)", IndexOutOfBoundsException.class, () -> x.wave(-1));
        due.same("nothing changed", x.wave(105), 1);
        due.same("waves", x.waves(), 106);
    }
}
