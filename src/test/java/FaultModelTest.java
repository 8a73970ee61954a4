import java.util.Random;
import java.util.regex.Pattern;

/** Promises 4, 6 and 7 over many made texts: right ones, ones cut short, ones with a character changed. */
public final class FaultModelTest {
    private static final String MARKS = "0123456789abchi@()?\"=<>+-*/% GOTSUBREIFNXD~!\\";
    private static final Pattern TEXTS = Grammar.ofTexts();
    private static final Random random = new Random(20);

    public static void main(String[] args) {
        Due due = new Due();
        for (int k = 0; k < 60000; k++) {
            String text = Maker.spaced(random, Maker.line(random));
            if (random.nextInt(4) > 0) {
                text = changed(text);
            }
            look(due, text.substring(0, Math.min(60, text.length())));
        }
        due.end();
    }

    private static String changed(String text) {
        StringBuilder row = new StringBuilder(text);
        int p = random.nextInt(text.length());
        char mark = MARKS.charAt(random.nextInt(MARKS.length()));
        switch (random.nextInt(4)) {
            case 0:
                row.setCharAt(p, mark);
                break;
            case 1:
                row.insert(p, mark);
                break;
            case 2:
                row.deleteCharAt(p);
                break;
            default:
                row.setLength(p);
                break;
        }
        return row.toString();
    }

    private static void look(Due due, String text) {
        Used x = new Used();
        int fault = Grammar.fault(TEXTS, text);
        if (fault >= 0) {
            due.same("enter of [" + text + "]", Due.enter(x, text), -1 - fault);
            return;
        }
        String bytes = Grammar.bytesOf(text);
        int number = Integer.parseInt(text.trim().replaceFirst("[^0-9].*", ""));
        due.same("enter of [" + text + "]", Due.enter(x, text), bytes.isEmpty() ? 0 : 2 + bytes.length());
        String head = bytes.isEmpty() ? "" : "" + (char) number + (char) bytes.length();
        due.same("bytes of [" + text + "]", Due.bytes(x), head + bytes);
        if (!bytes.isEmpty()) {
            due.same("list of [" + text + "]", Due.listing(x, 0), number + " " + Grammar.spelled(bytes));
        }
    }
}
