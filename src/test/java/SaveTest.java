/** Terms: TAPE with SAVING; promises 15 save, 18 waves. */
public final class SaveTest {
    private static final Due due = new Due();

    public static void main(String[] args) {
        bits();
        bytes();
        saving();
        sums();
        insteadOfTheOld();
        changesNothingElse();
        waves();
        due.end();
    }

    private static void bits() {
        due.sentence("Terms", "Bits: 0 are two LONG ones (12 when they are written), 1 four SHORT ones (6).");
        Used x = new Used();
        int size = x.save();
        for (int k = 0; k < size; k++) {
            int length = x.wave(k);
            due.holds("half-wave " + k, length == 12 || length == 6);
        }
        due.same("ten bits 1, then a bit 0", Due.waves(x).indexOf("L"), 40);
        due.same("a short one", x.wave(39), 6);
        due.same("a long one", x.wave(40), 12);
        due.same("the other long one", x.wave(41), 12);
    }

    private static void bytes() {
        due.sentence("Terms", "A byte is a bit 0, its eight bits from the lowest on, a bit 1.");
        // The first byte tells how many the program has: 5, that is 101 and five bits 0.
        Used x = Due.with("1 a=1");
        x.save();
        String first = "LL" + "SSSS" + "LL" + "SSSS" + "LL".repeat(5) + "SSSS";
        due.same("the first byte", Due.waves(x).substring(40, 40 + first.length()), first);
        // The highest bit: 135, that is 111 from the lowest on, four bits 0 and a bit 1.
        Used y = Due.with("1 END");
        y.save();
        String want = "LL" + "SSSS".repeat(3) + "LL".repeat(4) + "SSSS" + "SSSS";
        due.same("the fourth byte", Due.waves(y).substring(40 + 26 + 24 + 24, 40 + 26 + 24 + 24 + want.length()), want);
    }

    /** Asks for all half-waves, or for the first, the last and some between when there are too many. */
    private static void saves(String what, String want, Used x) {
        due.same("save of " + what, x.save(), want.length());
        due.same("waves of " + what, x.waves(), want.length());
        boolean all = want.length() < x.callsLeft();
        for (int k = 0; k < want.length(); k++) {
            if (all || k < 80 || k >= want.length() - 80 || k % 100 == 0) {
                due.same("half-wave " + k + " of " + what, x.wave(k), want.charAt(k) == 'L' ? 12 : 6);
            }
        }
    }

    private static void saving() {
        due.sentence("Terms", "SAVING writes ten bits 1, and the bytes: how many the program has; the program; its"
                + " SUM, the higher byte first");
        saves("nothing", Tapes.tapeOf(0, 0, 0), new Used());
        int end = 1 + 2 + 3 * 135;
        saves("END", Tapes.tapeOf(3, 1, 1, 135, end / 256, end % 256), Due.with("1 END"));
        int loop = 10 + 2 * 6 + 3 * 132 + 4 * 'a' + 5 * '=' + 6 * '1' + 7 * 133 + 8 * '5';
        saves("FOR", Tapes.tapeOf(8, 10, 6, 132, 'a', '=', '1', 133, '5', loop / 256, loop % 256),
                Due.with("10 FOR a=1 TO 5"));
        saves("two lines", Tapes.tapeOf(Tapes.summed(5, 1, 135, 99, 4, '?', '"', ' ', '"')),
                Due.with("99 ?\" \"", "5 END"));
    }

    private static void sums() {
        due.sentence("Terms", "with k = 1, 2, .. the sum of k times byte k, modulo 65536");
        Used none = new Used();
        none.save();
        due.same("the sum of nothing", Due.waves(none).substring(62), Tapes.bytes(0, 0));
        StringBuilder program = new StringBuilder();
        for (int line = 1; line <= 4; line++) {
            program.append((char) line).append((char) 48).append(Due.ROW_OF_45);
        }
        int sum = 0;
        for (int k = 1; k <= 200; k++) {
            sum += k * program.charAt(k - 1);
        }
        due.holds("it is above 65535", sum > 65535);
        String tape = Tapes.tapeOfProgram(program.toString());
        saves("200 bytes", tape, Due.with200());
        sum %= 65536;
        due.holds("its sum is at the end", tape.endsWith(Tapes.bytes(sum / 256, sum % 256)));
        Used x = Due.with200();
        x.save();
        due.same("load", x.load(), 4);
        due.same("the same program", Due.bytes(x), program.toString());
    }

    private static void insteadOfTheOld() {
        due.sentence("Promise 15: save", "SAVING, instead of what was on the tape: how many half-waves.");
        Used x = Due.with("10 FOR a=1 TO 5");
        int size = x.save();
        due.holds("more than of nothing", size > 106);
        x.wobble(1, 50);
        due.same("save again", x.save(), size);
        due.same("no wobble is left", x.wave(0) + x.wave(40), 18);
        due.same("load", x.load(), 1);
        Due.enter(x, "10");
        due.same("a shorter one", x.save(), 106);
        due.same("waves", x.waves(), 106);
        due.same("its tape", Due.waves(x), Tapes.tapeOf(0, 0, 0));
        due.throwsThat("nothing is left of the longer one", IndexOutOfBoundsException.class, () -> x.wave(106));
        due.same("load", x.load(), 0);
        Due.enter(x, "10 FOR a=1 TO 5");
        due.same("a longer one", x.save(), size);
    }

    private static void changesNothingElse() {
        due.sentence("Not promised", "Nothing is promised beyond the answers and state changes described above");
        Used x = Due.started("1 a=5", "2 ?a", "3 GOTO 2");
        x.run(2);
        x.list(0);
        Due.type(x, "12");
        x.save();
        due.same("the page", Due.page(x), "1 a=5");
        due.same("the state", x.state(), TapedLines.RUNNING);
        due.same("the place", x.place(), 3);
        due.same("the text", x.wipe(), 2);
        due.same("the output", Due.output(x), "5 ");
    }

    private static void waves() {
        due.sentence("Promise 18: waves", "How many half-waves the tape has.");
        Used x = new Used();
        due.same("none", x.waves(), 0);
        x.wobble(1, 1);
        due.same("none", x.waves(), 0);
        x.save();
        due.same("the fewest", x.waves(), 40 + 3 * 22);
        Due.enter(x, "1 END");
        due.same("as many until it is saved", x.waves(), 106);
        // 12 of the bits of 3, 1, 1, 135, 1 and 152 are bits 1.
        due.same("save", x.save(), 40 + 6 * 22 + 2 * 12);
        due.same("waves", x.waves(), 40 + 6 * 22 + 2 * 12);
        x.wobble(1, 50);
        x.setWave(0, 100);
        x.load();
        due.same("as many as before", x.waves(), 40 + 6 * 22 + 2 * 12);
    }
}
