/** Counts and prints the answers that are not the due ones; what the tests have in common. */
final class Due {
    private int wrong = 0;
    private int asked = 0;

    void same(String what, long got, long want) {
        asked++;
        if (got != want) {
            tell(what + " answered " + got + ", due is " + want);
        }
    }

    void same(String what, String got, String want) {
        asked++;
        if (!got.equals(want)) {
            tell(what + " answered [" + got + "], due is [" + want + "]");
        }
    }

    void holds(String what, boolean got) {
        asked++;
        if (!got) {
            tell(what + " does not hold");
        }
    }

    void throwsThat(String what, Class<?> want, Runnable call) {
        asked++;
        Class<?> got = null;
        try {
            call.run();
        } catch (RuntimeException e) {
            got = e.getClass();
        }
        if (got != want) {
            tell(what + " threw " + got + ", due is " + want);
        }
    }

    void end() {
        System.out.println(asked + " answers, " + wrong + " of them not as due");
        if (wrong != 0 || asked == 0) {
            System.exit(1);
        }
    }

    private void tell(String line) {
        wrong++;
        if (wrong <= 50) {
            System.out.println(line);
        }
    }

    static void type(TapedLines x, String text) {
        for (int k = 0; k < text.length(); k++) {
            x.type(text.charAt(k));
        }
    }

    static int enter(TapedLines x, String text) {
        type(x, text);
        return x.enter();
    }

    static TapedLines with(String... lines) {
        TapedLines x = new TapedLines();
        for (String line : lines) {
            int answer = enter(x, line);
            if (answer < 0) {
                throw new AssertionError("the test's own line " + line + " answers " + answer);
            }
        }
        return x;
    }

    static TapedLines started(String... lines) {
        TapedLines x = with(lines);
        x.start();
        return x;
    }

    static String page(TapedLines x) {
        StringBuilder page = new StringBuilder();
        for (int k = 0; k < x.length(); k++) {
            page.append(x.charAt(k));
        }
        return page.toString();
    }

    static String listing(TapedLines x, int i) {
        x.list(i);
        return page(x);
    }

    static String output(TapedLines x) {
        x.output();
        return page(x);
    }

    static String bytes(TapedLines x) {
        StringBuilder row = new StringBuilder();
        for (int k = 0; k < 1000; k++) {
            try {
                row.append((char) x.programByte(k));
            } catch (IndexOutOfBoundsException e) {
                return row.toString();
            }
        }
        return row.toString();
    }

    /** The half-waves as L and S. */
    static String waves(TapedLines x) {
        StringBuilder row = new StringBuilder();
        for (int k = 0; k < x.waves(); k++) {
            row.append(x.wave(k) > 8 ? 'L' : 'S');
        }
        return row.toString();
    }

    /** All that can be asked without changing anything but the page. */
    static String all(TapedLines x) {
        StringBuilder all = new StringBuilder();
        all.append(x.state()).append(' ').append(x.place()).append(' ').append(x.lines());
        all.append('[').append(bytes(x)).append(']');
        for (int k = 0; k < 8; k++) {
            all.append(x.variable(k)).append(' ');
        }
        for (int k = 0; k < 16; k++) {
            all.append(x.cell(k)).append(' ');
        }
        for (int k = 0; k < x.waves(); k++) {
            all.append(x.wave(k)).append('~');
        }
        return all.append('[').append(output(x)).append(']').toString();
    }
}
