import java.util.regex.Matcher;
import java.util.regex.Pattern;

/** The document's grammar as regular expressions: a second opinion on texts and on bytes. */
final class Grammar {
    private static final String[] WORDS = {"GOTO", "GOSUB", "RETURN", "IF", "FOR", "TO", "NEXT", "END"};
    private static final String CONSTANT =
            "(?:0|[1-9][0-9]{0,3}|[12][0-9]{4}|3[01][0-9]{3}|32[0-6][0-9]{2}|327[0-5][0-9]|3276[0-7])";
    private static final String NUMBER = "[1-9][0-9]?";

    private final String space;
    private final boolean asBytes;

    private Grammar(boolean asBytes) {
        this.asBytes = asBytes;
        space = asBytes ? "" : " *+";
    }

    /** A number and a statement, or a number alone, with spaces. */
    static Pattern ofTexts() {
        Grammar g = new Grammar(false);
        return Pattern.compile(g.space + NUMBER + g.space + "(?:" + g.statement() + g.space + ")?");
    }

    /** The bytes of a statement, as characters. */
    static Pattern ofBytes() {
        return Pattern.compile(new Grammar(true).statement(), Pattern.DOTALL);
    }

    /** The fault of a text, or -1: a prefix can be completed if the search for it ran into its end. */
    static int fault(Pattern texts, String text) {
        for (int p = 0; p < text.length(); p++) {
            Matcher m = texts.matcher(text.substring(0, p + 1));
            if (!m.matches() && !m.hitEnd()) {
                return p;
            }
        }
        return texts.matcher(text).matches() ? -1 : text.length();
    }

    /** The bytes of the statement in a text that has no fault. */
    static String bytesOf(String text) {
        int quote = text.indexOf('"');
        String open = quote < 0 ? text : text.substring(0, quote);
        String row = open.replace(" ", "").replaceFirst("^[0-9]+", "");
        // GOTO before TO: the longer word is the one that is meant.
        for (int k = 0; k < WORDS.length; k++) {
            row = row.replace(WORDS[k], String.valueOf((char) (128 + k)));
        }
        return quote < 0 ? row : row + text.substring(quote, text.lastIndexOf('"') + 1);
    }

    static String spelled(String bytes) {
        StringBuilder text = new StringBuilder();
        for (int k = 0; k < bytes.length(); k++) {
            int word = bytes.charAt(k) - 128;
            if (word < 0) {
                text.append(bytes.charAt(k));
            } else {
                text.append(k > 0 ? " " : "").append(WORDS[word]).append(k < bytes.length() - 1 ? " " : "");
            }
        }
        return text.toString();
    }

    private String statement() {
        String e = expression(1);
        return "(?:" + row("[a-h]", "=", e) + "|" + row("@", "\\(", e, "\\)", "=", e) + "|" + row("\\?", e)
                + "|" + row("\\?", "\"[ !#-~]*\"") + "|" + row(word(0), NUMBER) + "|" + row(word(1), NUMBER)
                + "|" + word(2) + "|" + row(word(3), e, word(0), NUMBER)
                + "|" + row(word(4), "[a-h]", "=", e, word(5), e) + "|" + row(word(6), "[a-h]") + "|" + word(7) + ")";
    }

    private String word(int k) {
        return asBytes ? String.valueOf((char) (128 + k)) : WORDS[k];
    }

    private String row(String... parts) {
        return String.join(space, parts);
    }

    private String expression(int depth) {
        String bracket = depth == 4 ? "" : "|(?:@" + space + ")?" + row("\\(", expression(depth + 1), "\\)");
        String one = "(?:-" + space + ")*(?:" + CONSTANT + "|[a-h]" + bracket + ")";
        return one + "(?:" + space + row("[-=<>+*/%]", one) + ")*";
    }
}
