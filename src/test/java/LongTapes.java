/**
 * Tapes with more than a text gives. To set each of their half-waves would take too many calls: most stay as they
 * were saved, because each byte that is changed has as many bits 1, and so as many half-waves, as the old one.
 */
final class LongTapes {
    // 200 bytes in 200 calls.
    private static final String[] LINES = {"1?\"~~~~\"", "2?\"" + "~".repeat(56) + "\"", "3?\"" + "~".repeat(56) + "\"",
        "4?\"" + "~".repeat(56) + "\"", "5?\"~~~\""};
    // The first character with 1, 2, .. bits 1.
    private static final String BITS = " !#'/?";
    private static final String SAVED = Tapes.tapeOf(Tapes.summed(program()));

    private LongTapes() {
    }

    private static int[] program() {
        StringBuilder program = new StringBuilder();
        for (String line : LINES) {
            program.append((char) (line.charAt(0) - '0')).append((char) (line.length() - 1)).append(line.substring(1));
        }
        return program.chars().toArray();
    }

    private static char like(int value) {
        return BITS.charAt(Integer.bitCount(value) - 1);
    }

    /** Five lines, as they are saved. */
    static Used with200() {
        Used x = Due.with(LINES);
        x.save();
        return x;
    }

    /** A line 1 whose row has one character more; its five have 14 bits 1, so all behind them stays in its place. */
    static Used with201() {
        int[] old = program();
        int[] program = new int[201];
        System.arraycopy(old, 8, program, 9, 192);
        System.arraycopy(new int[] {1, 8, '?', '"', '#', '#', '#', '#', '!'}, 0, program, 0, 9);
        return with(program);
    }

    /** One line of 198 bytes: what parted the lines becomes characters of its row. */
    static Used withOneStatement() {
        return with(oneStatement());
    }

    private static int[] oneStatement() {
        int[] program = program();
        program[1] = 198;
        // 198 has one bit 1 more than 7, this one fewer than ~.
        program[4] = '/';
        for (int k = 5; k < 199; k++) {
            program[k] = program[k] == '~' ? '~' : like(program[k]);
        }
        return fitting(program);
    }

    static String rowOfOneStatement() {
        int[] program = oneStatement();
        return new String(program, 2, program.length - 2);
    }

    // The new sum may have more bits 1 than the old one: the character before the last quote then has fewer.
    private static int[] fitting(int[] program) {
        int[] row = program.clone();
        for (int k = BITS.length(); !fits(row); k--) {
            row[row.length - 2] = BITS.charAt(k - 1);
        }
        return row;
    }

    private static boolean fits(int[] program) {
        return Tapes.tapeOf(Tapes.summed(program)).length() <= SAVED.length();
    }

    private static Used with(int[] program) {
        Used x = with200();
        Tapes.change(x, SAVED, Tapes.tapeOf(Tapes.summed(fitting(program))));
        return x;
    }
}
