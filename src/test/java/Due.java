/** Counts and prints the answers that are not the due ones; what the tests have in common. */
final class Due {
    // With its line's number and how many they are, 50 bytes.
    static final String ROW_OF_45 = "?\"" + "x".repeat(45) + "\"";

    private int wrong = 0;
    private int asked = 0;
    private int sentences = 0;
    private int askedBefore = 0;
    private boolean quoted = true;
    private String sentence = "";

    /** What is asked from here on is the test of this one sentence, which stands in that section of the document. */
    void sentence(String section, String quote) {
        closeSentence();
        sentence = section + ": " + quote;
        sentences++;
        askedBefore = asked;
        quoted = false;
    }

    private void closeSentence() {
        if (sentences > 0 && asked == askedBefore) {
            tell("nothing was asked");
        }
    }

    void same(String what, long got, long want) {
        asked++;
        if (got != want) {
            tell(what + " answered " + got + ", due is " + want);
        }
    }

    void same(String what, String got, String want) {
        asked++;
        if (!got.equals(want)) {
            tell(what + " answered [" + got + "], due is [" + want + "]");
        }
    }

    void holds(String what, boolean got) {
        asked++;
        if (!got) {
            tell(what + " does not hold");
        }
    }

    void throwsThat(String what, Class<?> want, Runnable call) {
        asked++;
        Class<?> got = null;
        try {
            call.run();
        } catch (RuntimeException e) {
            got = e.getClass();
        }
        if (got != want) {
            tell(what + " threw " + got + ", due is " + want);
        }
    }

    void end() {
        closeSentence();
        String of = sentences == 0 ? "" : " to " + sentences + " sentences";
        System.out.println(asked + " answers" + of + ", " + wrong + " of them not as due");
        if (wrong != 0 || asked == 0) {
            System.exit(1);
        }
    }

    private void tell(String line) {
        wrong++;
        if (!quoted) {
            System.out.println("NOT HELD: " + sentence);
            quoted = true;
        }
        if (wrong <= 50) {
            System.out.println(line);
        }
    }

    /** The text has its fault there, and is gone then; all else stays. */
    void faulty(String text, int place) {
        fits(text);
        Used x = started("50 a=1");
        String before = all(x);
        same("enter of [" + text + "]", enter(x, text), -1 - place);
        same("all else with [" + text + "]", all(x), before);
        same("text behind [" + text + "]", x.wipe(), 0);
    }

    /** The text becomes a line, which is listed so. */
    void becomes(String text, String listed) {
        fits(text);
        Used x = new Used();
        holds("enter of [" + text + "]", enter(x, text) > 0);
        same("[" + text + "] listed", x.lines() == 1 ? listing(x, 0) : "", listed);
    }

    private static void fits(String text) {
        if (text.length() > 60) {
            throw new AssertionError("the test's own text is too long: " + text);
        }
    }

    static void type(Used x, String text) {
        for (int k = 0; k < text.length(); k++) {
            x.type(text.charAt(k));
        }
    }

    static int enter(Used x, String text) {
        type(x, text);
        return x.enter();
    }

    static Used with(String... lines) {
        Used x = new Used();
        for (String line : lines) {
            fits(line);
            int answer = enter(x, line);
            if (answer < 0) {
                throw new AssertionError("the test's own line " + line + " answers " + answer);
            }
        }
        return x;
    }

    /** A program of 200 bytes in four lines, for 204 calls. */
    static Used with200() {
        return with("1" + ROW_OF_45, "2" + ROW_OF_45, "3" + ROW_OF_45, "4" + ROW_OF_45);
    }

    static Used started(String... lines) {
        Used x = with(lines);
        x.start();
        return x;
    }

    static String page(Used x) {
        StringBuilder page = new StringBuilder();
        int length = x.length();
        for (int k = 0; k < length; k++) {
            page.append(x.charAt(k));
        }
        return page.toString();
    }

    static String listing(Used x, int i) {
        x.list(i);
        return page(x);
    }

    static String output(Used x) {
        x.output();
        return page(x);
    }

    static String bytes(Used x) {
        StringBuilder row = new StringBuilder();
        for (int k = 0; k < 1000; k++) {
            try {
                row.append((char) x.programByte(k));
            } catch (IndexOutOfBoundsException e) {
                return row.toString();
            }
        }
        return row.toString();
    }

    /** The half-waves as L and S. */
    static String waves(Used x) {
        StringBuilder row = new StringBuilder();
        int waves = x.waves();
        for (int k = 0; k < waves; k++) {
            row.append(x.wave(k) > 8 ? 'L' : 'S');
        }
        return row.toString();
    }

    /** All that can be asked without changing anything but the page. */
    static String all(Used x) {
        return x.state() + " " + allButState(x);
    }

    static String allButState(Used x) {
        StringBuilder all = new StringBuilder();
        all.append(x.place()).append(' ').append(x.lines());
        all.append('[').append(bytes(x)).append(']');
        for (int k = 0; k < 8; k++) {
            all.append(x.variable(k)).append(' ');
        }
        for (int k = 0; k < 16; k++) {
            all.append(x.cell(k)).append(' ');
        }
        int waves = x.waves();
        for (int k = 0; k < waves; k++) {
            all.append(x.wave(k)).append('~');
        }
        return all.append('[').append(output(x)).append(']').toString();
    }
}
