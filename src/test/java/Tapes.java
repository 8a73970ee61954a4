/** Rows of half-waves as L and S, made by hand from the document's words. */
final class Tapes {
    private static final String ROW_OF_45 = "?\"" + "~".repeat(45) + "\"";

    private Tapes() {
    }

    static String bit(int b) {
        return b == 0 ? "LL" : "SSSS";
    }

    /** The eight bits alone, from the lowest on. */
    static String eightBits(int value) {
        StringBuilder row = new StringBuilder();
        for (int k = 0; k < 8; k++) {
            row.append(bit(value >> k & 1));
        }
        return row.toString();
    }

    static String byteBits(int value) {
        return bit(0) + eightBits(value) + bit(1);
    }

    static String bytes(int... bytes) {
        StringBuilder row = new StringBuilder();
        for (int value : bytes) {
            row.append(byteBits(value));
        }
        return row.toString();
    }

    static String tapeOf(int... bytes) {
        return bit(1).repeat(10) + bytes(bytes);
    }

    /** How many bytes a program has, it, and its sum. */
    static int[] summed(int... program) {
        int[] bytes = new int[program.length + 3];
        bytes[0] = program.length;
        int sum = 0;
        for (int k = 0; k < program.length; k++) {
            bytes[k + 1] = program[k];
            sum += (k + 1) * program[k];
        }
        bytes[program.length + 1] = sum / 256 % 256;
        bytes[program.length + 2] = sum % 256;
        return bytes;
    }

    /** Gives the tape's first half-waves these lengths; those behind stay. */
    static void put(TapedLines x, String row) {
        if (row.length() > x.waves()) {
            throw new AssertionError("the test's own tape is too short: " + x.waves() + " for " + row.length());
        }
        for (int k = 0; k < row.length(); k++) {
            x.setWave(k, row.charAt(k) == 'L' ? 12 : 6);
        }
    }

    /** An object with a program of 200 bytes, and a tape as long as it is then. */
    static TapedLines longTape() {
        TapedLines x = Due.with("1" + ROW_OF_45, "2" + ROW_OF_45, "3" + ROW_OF_45, "4" + ROW_OF_45);
        x.save();
        return x;
    }

    static TapedLines longTapeWith(String row) {
        TapedLines x = longTape();
        put(x, row);
        return x;
    }

    static int loadOf(int... bytes) {
        return longTapeWith(tapeOf(bytes)).load();
    }

    /** A line 7 that writes a row of spaces: as many bytes in all as told, at least 5. */
    static int[] oneLineOf(int size) {
        int[] program = new int[size];
        java.util.Arrays.fill(program, ' ');
        program[0] = 7;
        program[1] = size - 2;
        program[2] = '?';
        program[3] = '"';
        program[size - 1] = '"';
        return program;
    }
}
