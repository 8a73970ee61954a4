import java.util.Random;

/** Makes lines for the tests that compare with a model; the same seed makes the same lines. */
final class Maker {
    // Among them such that are, as bytes, operators, digits and brackets.
    private static final int[] NUMBERS = {1, 2, 3, 5, 37, 40, 41, 42, 43, 45, 47, 48, 50, 57, 60, 61, 62, 64, 98, 99};

    private Maker() {
    }

    static String number(Random r) {
        return String.valueOf(NUMBERS[r.nextInt(NUMBERS.length)]);
    }

    static String line(Random r) {
        return number(r) + (r.nextInt(20) == 0 ? "" : statement(r));
    }

    static String statement(Random r) {
        switch (r.nextInt(14)) {
            case 0:
            case 1:
                return variable(r) + "=" + expression(r, 1);
            case 2:
                return "@(" + expression(r, 1) + ")=" + expression(r, 1);
            case 3:
                return "?" + expression(r, 1);
            case 4:
                return "?\"" + "a GOTO (".substring(0, r.nextInt(9)) + "\"";
            case 5:
                return "GOTO" + number(r);
            case 6:
                return "GOSUB" + number(r);
            case 7:
                return "RETURN";
            case 8:
            case 9:
                return "IF" + expression(r, 1) + "GOTO" + number(r);
            case 10:
            case 11:
                return "FOR" + variable(r) + "=" + expression(r, 1) + "TO" + expression(r, 1);
            case 12:
                return "NEXT" + variable(r);
            default:
                return r.nextInt(4) == 0 ? "END" : variable(r) + "=" + variable(r) + "+1";
        }
    }

    private static String variable(Random r) {
        return String.valueOf((char) ('a' + r.nextInt(8)));
    }

    static String expression(Random r, int depth) {
        StringBuilder row = new StringBuilder(one(r, depth));
        for (int k = 0; k < 4 && r.nextInt(3) == 0; k++) {
            row.append("=<>+-*/%".charAt(r.nextInt(8))).append(one(r, depth));
        }
        return row.toString();
    }

    private static String one(Random r, int depth) {
        String minus = "-".repeat(r.nextInt(5) == 0 ? 1 + r.nextInt(2) : 0);
        int kind = r.nextInt(depth < 4 ? 8 : 6);
        if (kind == 7) {
            return minus + "@(" + expression(r, depth + 1) + ")";
        }
        if (kind == 6) {
            return minus + "(" + expression(r, depth + 1) + ")";
        }
        if (kind > 2) {
            return minus + variable(r);
        }
        int[] most = {3, 16, 32768};
        return minus + r.nextInt(most[kind]);
    }

    /** Spaces between letters of words and digits of numbers are made seldom: they are faults. */
    static String spaced(Random r, String line) {
        StringBuilder row = new StringBuilder();
        for (int k = 0; k < line.length(); k++) {
            char c = line.charAt(k);
            boolean joined = k > 0 && Character.isLetterOrDigit(c) && Character.isLetterOrDigit(line.charAt(k - 1));
            if (r.nextInt(joined ? 200 : 6) == 0) {
                row.append(" ".repeat(1 + r.nextInt(2)));
            }
            row.append(c);
        }
        return row.toString();
    }
}
