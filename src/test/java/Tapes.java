/** Rows of half-waves as L and S, made by hand from the document's words, and objects with such tapes. */
final class Tapes {
    // What a program may write to have a tape that is near to the one which is wanted.
    private static final String FILLERS = "~ _mU5)@";
    private static final int MOST_IN_A_ROW = 56;

    private Tapes() {
    }

    static String bit(int b) {
        return b == 0 ? "LL" : "SSSS";
    }

    /** The eight bits alone, from the lowest on. */
    static String eightBits(int value) {
        StringBuilder row = new StringBuilder();
        for (int k = 0; k < 8; k++) {
            row.append(bit(value >> k & 1));
        }
        return row.toString();
    }

    static String byteBits(int value) {
        return bit(0) + eightBits(value) + bit(1);
    }

    static String bytes(int... bytes) {
        StringBuilder row = new StringBuilder();
        for (int value : bytes) {
            row.append(byteBits(value));
        }
        return row.toString();
    }

    static String tapeOf(int... bytes) {
        return bit(1).repeat(10) + bytes(bytes);
    }

    /** How many bytes a program has, it, and its sum. */
    static int[] summed(int... program) {
        int[] bytes = new int[program.length + 3];
        bytes[0] = program.length;
        int sum = 0;
        for (int k = 0; k < program.length; k++) {
            bytes[k + 1] = program[k];
            sum += (k + 1) * program[k];
        }
        bytes[program.length + 1] = sum / 256 % 256;
        bytes[program.length + 2] = sum % 256;
        return bytes;
    }

    static String tapeOfProgram(String bytes) {
        return tapeOf(summed(bytes.chars().toArray()));
    }

    /** The document's formula, without the wrap-around of int. */
    static int[] wobbled(int[] lengths, int seed, int percent) {
        int[] want = lengths.clone();
        long x = seed & 0xFFFFFFFFL;
        for (int k = 0; k < want.length; k++) {
            x = (x * 1103515245L + 12345L) & 0xFFFFFFFFL;
            long factor = 100 - percent + (x >> 16) % (2 * percent + 1);
            want[k] = (int) Math.min(100, Math.max(1, want[k] * factor / 100));
        }
        return want;
    }

    /** The lengths of a row as it is written. */
    static int[] lengths(String row) {
        return row.chars().map(wave -> wave == 'L' ? 12 : 6).toArray();
    }

    /** The row of these lengths as LOADING sees it. */
    static String row(int[] lengths) {
        StringBuilder row = new StringBuilder();
        for (int length : lengths) {
            row.append(length > 8 ? 'L' : 'S');
        }
        return row.toString();
    }

    /** Makes the tape, which is like the first row, begin with the wanted one; what stands behind that stays. */
    static void change(Used x, String row, String wanted) {
        if (wanted.length() > row.length()) {
            throw new AssertionError("the test's own tape is too short: " + row.length() + " for " + wanted.length());
        }
        for (int k = 0; k < wanted.length(); k++) {
            if (wanted.charAt(k) != row.charAt(k)) {
                x.setWave(k, wanted.charAt(k) == 'L' ? 12 : 6);
            }
        }
    }

    /** Lines 1, 2, .. that write a row of the character, until their tape has so many half-waves. */
    private static String[] linesFor(int waves, char filler) {
        java.util.ArrayList<String> lines = new java.util.ArrayList<>();
        StringBuilder program = new StringBuilder();
        while (tapeOfProgram(program.toString()).length() < waves) {
            int more = 0;
            String line;
            do {
                line = (lines.size() + 1) + "?\"" + String.valueOf(filler).repeat(more) + "\"";
                more++;
            } while (more <= MOST_IN_A_ROW && tapeOfProgram(program + bytesOf(line)).length() < waves);
            lines.add(line);
            program.append(bytesOf(line));
        }
        return lines.toArray(new String[0]);
    }

    private static String bytesOf(String line) {
        return "" + (char) (line.charAt(0) - '0') + (char) (line.length() - 1) + line.substring(1);
    }

    private static String tapeOfLines(String... lines) {
        StringBuilder program = new StringBuilder();
        for (String line : lines) {
            program.append(bytesOf(line));
        }
        return tapeOfProgram(program.toString());
    }

    private static int callsFor(String[] lines, String wanted) {
        String row = tapeOfLines(lines);
        int calls = 0;
        for (String line : lines) {
            calls += line.length() + 1;
        }
        for (int k = 0; k < wanted.length(); k++) {
            calls += row.charAt(k) == wanted.charAt(k) ? 0 : 1;
        }
        return calls;
    }

    /** An object whose tape begins with the row; it has the lines for which that takes the fewest calls. */
    static Used beginningWith(String wanted) {
        String[] best = linesFor(wanted.length(), FILLERS.charAt(0));
        for (char filler : FILLERS.toCharArray()) {
            String[] lines = linesFor(wanted.length(), filler);
            best = callsFor(lines, wanted) < callsFor(best, wanted) ? lines : best;
        }
        Used x = Due.with(best);
        x.save();
        change(x, tapeOfLines(best), wanted);
        return x;
    }

    static int loadOf(int... bytes) {
        return beginningWith(tapeOf(bytes)).load();
    }

    /** An object whose tape, of so many half-waves at least, has short ones alone. */
    static Used allShort(int waves) {
        String[] lines = linesFor(waves, '~');
        Used x = Due.with(lines);
        x.save();
        int[] lengths = lengths(tapeOfLines(lines));
        // By 8 percent 12 never grows, since what is more than 12 is less than 13; so all fall below 9 at last.
        for (int seed = 1; row(lengths).contains("L"); seed *= 1566083941) {
            x.wobble(seed, 8);
            lengths = wobbled(lengths, seed, 8);
        }
        return x;
    }
}
