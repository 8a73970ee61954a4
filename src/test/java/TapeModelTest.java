import java.util.Random;
import java.util.regex.Matcher;
import java.util.regex.Pattern;

/** Promises 15, 16 and 20 over many tapes with changed half-waves, against a reader of L and S. */
public final class TapeModelTest {
    private static final Pattern BYTE = Pattern.compile("(?:SSSS)*+LL((?:LL|SSSS){8})SSSS");
    private static final Pattern STATEMENTS = Grammar.ofBytes();
    private static final Random random = new Random(4);
    // To wobble, to look at some half-waves, to load, and to ask for at most some hundred bytes.
    private static final int CALLS_FOR_THE_REST = 150;

    private static int others = 0;

    public static void main(String[] args) {
        Due due = new Due();
        int[] answers = new int[80];
        for (int k = 0; k < 6000; k++) {
            answers[3 + oneTape(due)]++;
        }
        due.holds("some are torn", answers[3 + TapedLines.TORN] > 100);
        due.holds("some are wrong", answers[3 + TapedLines.WRONG] > 100);
        due.holds("some have two lines", answers[3 + 2] > 100);
        due.holds("some have another program than the old one", others > 100);
        due.end();
    }

    private static int oneTape(Due due) {
        Used x = new Used();
        int most = random.nextInt(random.nextInt(4) == 0 ? 8 : 4);
        for (int k = 0; k < most; k++) {
            Due.enter(x, Maker.line(random));
            x.wipe();
        }
        String bytes = Due.bytes(x);
        int[] lengths = Tapes.lengths(Tapes.tapeOfProgram(bytes));
        due.same("save", x.save(), lengths.length);
        due.same("saved", loaded(Tapes.row(lengths)), bytes);
        if (random.nextInt(6) > 0) {
            set(x, lengths, row(changed(bytes)));
        }
        if (random.nextInt(4) == 0) {
            int seed = random.nextInt();
            int percent = random.nextInt(51);
            x.wobble(seed, percent);
            lengths = Tapes.wobbled(lengths, seed, percent);
        }
        lookAtSome(due, x, lengths);
        return loadIsDue(due, x, Tapes.row(lengths), bytes);
    }

    /** Sets what is not as wanted, as long as calls are left for what comes then. */
    private static void set(Used x, int[] lengths, String wanted) {
        for (int k = 0; k < wanted.length() && k < lengths.length && x.callsLeft() > CALLS_FOR_THE_REST; k++) {
            boolean isLong = wanted.charAt(k) == 'L';
            if (lengths[k] > 8 != isLong || random.nextInt(20) == 0) {
                lengths[k] = isLong ? 9 + random.nextInt(92) : 1 + random.nextInt(8);
                x.setWave(k, lengths[k]);
            }
        }
    }

    private static void lookAtSome(Due due, Used x, int[] lengths) {
        for (int k = 0; k < 20; k++) {
            int i = random.nextInt(lengths.length);
            due.same("half-wave " + i, x.wave(i), lengths[i]);
        }
    }

    private static int loadIsDue(Due due, Used x, String waves, String bytes) {
        String want = loaded(waves);
        int answer = x.load();
        if (want.equals("torn") || want.equals("wrong")) {
            due.same("load of " + waves, answer, want.equals("torn") ? TapedLines.TORN : TapedLines.WRONG);
            due.same("the program behind " + waves, Due.bytes(x), bytes);
        } else {
            others += want.equals(bytes) ? 0 : 1;
            due.same("load of " + waves, answer, countLines(want));
            due.same("lines", x.lines(), answer);
            due.same("the program of " + waves, Due.bytes(x), want);
        }
        return answer;
    }

    /** Mostly shorter, so that it still has room on the tape. */
    private static String changed(String bytes) {
        StringBuilder row = new StringBuilder(bytes);
        for (int k = random.nextInt(3); k > 0 && row.length() > 0; k--) {
            int p = random.nextInt(row.length());
            if (random.nextBoolean()) {
                row.setCharAt(p, (char) (row.charAt(p) ^ 1 << random.nextInt(8)));
            } else if (p > 1 && p < row.length() - 1 && random.nextBoolean()) {
                row.deleteCharAt(p);
                int line = 0;
                while (line + 2 + row.charAt(line + 1) <= p && line + 3 + row.charAt(line + 1) < row.length()) {
                    line += 2 + row.charAt(line + 1);
                }
                row.setCharAt(line + 1, (char) Math.max(0, row.charAt(line + 1) - 1));
            } else {
                row.setLength(p);
            }
        }
        return row.toString();
    }

    private static String row(String program) {
        int sum = 0;
        for (int k = 0; k < program.length(); k++) {
            sum += (k + 1) * program.charAt(k);
        }
        sum += random.nextInt(10) == 0 ? 1 : 0;
        StringBuilder row = new StringBuilder("SSSS".repeat(random.nextInt(11)));
        String bytes = (char) program.length() + program + (char) (sum >> 8 & 255) + (char) (sum & 255);
        for (int k = 0; k < bytes.length(); k++) {
            row.append("SSSS".repeat(random.nextInt(9) == 0 ? 1 : 0)).append("LL");
            for (int b = 0; b < 8; b++) {
                row.append((bytes.charAt(k) >> b & 1) == 0 ? "LL" : "SSSS");
            }
            row.append("SSSS");
        }
        if (random.nextInt(10) == 0) {
            int p = random.nextInt(row.length());
            row.setCharAt(p, row.charAt(p) == 'L' ? 'S' : 'L');
        }
        return row.toString();
    }

    /** The program on a tape, or torn, or wrong: no program is spelled like these. */
    private static String loaded(String waves) {
        StringBuilder bytes = new StringBuilder();
        Matcher m = BYTE.matcher(waves);
        int at = 0;
        while (bytes.length() == 0 || bytes.length() < bytes.charAt(0) + 3) {
            m.region(at, waves.length());
            if (!m.lookingAt()) {
                return "torn";
            }
            at = m.end();
            String reversed = new StringBuilder(m.group(1).replace("LL", "0").replace("SSSS", "1")).reverse().toString();
            bytes.append((char) Integer.parseInt(reversed, 2));
        }
        String program = bytes.substring(1, bytes.length() - 2);
        long sum = 0;
        for (int k = 1; k <= program.length(); k++) {
            sum = (sum + k * program.charAt(k - 1)) % 65536;
        }
        boolean right = sum == bytes.charAt(bytes.length() - 2) * 256 + bytes.charAt(bytes.length() - 1);
        return right && program.length() <= 200 && countLines(program) >= 0 ? program : "wrong";
    }

    private static int countLines(String program) {
        int lines = 0;
        int last = 0;
        String rest = program;
        while (!rest.isEmpty()) {
            if (rest.charAt(0) <= last || rest.charAt(0) > 99 || rest.length() < 2) {
                return -1;
            }
            last = rest.charAt(0);
            int size = rest.charAt(1);
            if (size + 2 > rest.length() || !STATEMENTS.matcher(rest.substring(2, 2 + size)).matches()) {
                return -1;
            }
            rest = rest.substring(2 + size);
            lines++;
        }
        return lines;
    }
}
