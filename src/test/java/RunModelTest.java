import java.util.ArrayDeque;
import java.util.ArrayList;
import java.util.Map;
import java.util.Random;
import java.util.TreeMap;

/** Promises 8 to 14 over many made programs, against an interpreter that reads the lines' texts. */
public final class RunModelTest {
    private static final Random random = new Random(9);
    // A run, the state, the place, all variables and cells, and an output of 100 characters.
    private static final int CALLS_TO_COMPARE = 130;

    /** An error of the document, by its number. */
    private static final class Stop extends RuntimeException {
        private static final long serialVersionUID = 1;
        final int error;

        Stop(int error) {
            super("error " + error, null, false, false);
            this.error = error;
        }
    }

    private record Loop(char v, int limit, Integer line) {
    }

    private static final class Model {
        final TreeMap<Integer, String> lines = new TreeMap<>();
        final int[] variables = new int[8];
        final int[] cells = new int[16];
        ArrayList<Loop> loops = new ArrayList<>();
        final ArrayDeque<Integer> returns = new ArrayDeque<>();
        final StringBuilder output = new StringBuilder();
        int state = TapedLines.RUNNING;
        Integer place;
        private String rest;

        void begin() {
            go(lines.isEmpty() ? null : lines.firstKey());
        }

        void go(Integer line) {
            place = line == null || line == 1000 ? null : line;
            state = place == null ? TapedLines.ENDED : TapedLines.RUNNING;
        }

        boolean step() {
            Map.Entry<Integer, String> behind = lines.higherEntry(place);
            try {
                go(perform(lines.get(place), behind == null ? 1000 : behind.getKey()));
                return true;
            } catch (Stop stop) {
                state = 10 + stop.error;
                return false;
            }
        }

        private Integer perform(String s, int behind) {
            if (s.startsWith("GOTO")) {
                return line(s.substring(4));
            }
            if (s.startsWith("GOSUB")) {
                Integer target = line(s.substring(5));
                check(returns.size() < 6, 4);
                returns.push(behind);
                return target;
            }
            if (s.equals("RETURN")) {
                check(!returns.isEmpty(), 2);
                return returns.pop();
            }
            if (s.startsWith("IF")) {
                int value = whole(s.substring(2, s.indexOf("GOTO")));
                return value == 0 ? (Integer) behind : line(s.substring(s.indexOf("GOTO") + 4));
            }
            if (s.startsWith("FOR")) {
                openLoop(s, behind);
                return behind;
            }
            if (s.startsWith("NEXT")) {
                return closeLoop(s.charAt(4), behind);
            }
            if (s.equals("END")) {
                return 1000;
            }
            change(s);
            return behind;
        }

        private void openLoop(String s, int behind) {
            int first = whole(s.substring(5, s.indexOf("TO")));
            int limit = whole(s.substring(s.indexOf("TO") + 2));
            ArrayList<Loop> kept = new ArrayList<>();
            for (Loop loop : loops) {
                if (loop.v() == s.charAt(3)) {
                    break;
                }
                kept.add(loop);
            }
            kept.add(new Loop(s.charAt(3), limit, behind));
            check(kept.size() <= 6, 4);
            loops = kept;
            variables[s.charAt(3) - 'a'] = first;
        }

        private Integer closeLoop(char v, int behind) {
            check(loops.stream().anyMatch(loop -> loop.v() == v), 3);
            while (loops.get(loops.size() - 1).v() != v) {
                loops.remove(loops.size() - 1);
            }
            Loop loop = loops.get(loops.size() - 1);
            variables[v - 'a'] = wrapped(variables[v - 'a'] + 1L);
            if (variables[v - 'a'] <= loop.limit()) {
                return loop.line();
            }
            loops.remove(loop);
            return behind;
        }

        private void change(String s) {
            if (s.startsWith("?")) {
                String more = s.startsWith("?\"") ? s.substring(2, s.length() - 1) : whole(s.substring(1)) + " ";
                check(output.length() + more.length() <= 100, 7);
                output.append(more);
            } else if (s.startsWith("@")) {
                rest = s.substring(2);
                int index = expression();
                rest = rest.substring(2);
                int value = expression();
                check(index >= 0 && index < 16, 6);
                cells[index] = value;
            } else {
                variables[s.charAt(0) - 'a'] = whole(s.substring(2));
            }
        }

        private Integer line(String number) {
            check(lines.containsKey(Integer.parseInt(number)), 1);
            return Integer.valueOf(number);
        }

        private static void check(boolean right, int error) {
            if (!right) {
                throw new Stop(error);
            }
        }

        private static int wrapped(long value) {
            return (int) (Math.floorMod(value + 32768, 65536L) - 32768);
        }

        private int whole(String s) {
            rest = s;
            return expression();
        }

        private boolean sees(String marks) {
            return !rest.isEmpty() && marks.indexOf(rest.charAt(0)) >= 0;
        }

        private char take() {
            char c = rest.charAt(0);
            rest = rest.substring(1);
            return c;
        }

        private int expression() {
            int left = sum();
            while (sees("=<>")) {
                char mark = take();
                int right = sum();
                int order = Integer.compare(left, right);
                left = order == "<=>".indexOf(mark) - 1 ? 1 : 0;
            }
            return left;
        }

        private int sum() {
            int left = product();
            while (sees("+-")) {
                left = wrapped(take() == '+' ? (long) left + product() : (long) left - product());
            }
            return left;
        }

        private int product() {
            int left = one();
            while (sees("*/%")) {
                char mark = take();
                int right = one();
                check(mark == '*' || right != 0, 5);
                left = wrapped(mark == '*' ? (long) left * right : mark == '/' ? left / right : left % right);
            }
            return left;
        }

        private int one() {
            char c = take();
            if (c == '-') {
                return wrapped(-(long) one());
            }
            if (c >= 'a') {
                return variables[c - 'a'];
            }
            if (c == '(') {
                int value = expression();
                take();
                return value;
            }
            if (c == '@') {
                int index = one();
                check(index >= 0 && index < 16, 6);
                return cells[index];
            }
            int value = c - '0';
            while (sees("0123456789")) {
                value = value * 10 + take() - '0';
            }
            return value;
        }
    }

    public static void main(String[] args) {
        Due due = new Due();
        int[] states = new int[20];
        for (int k = 0; k < 40000; k++) {
            states[oneProgram(due)]++;
        }
        for (int state : new int[] {1, 2, 11, 12, 13, 14, 15, 16, 17}) {
            due.holds("some runs come to state " + state, states[state] > 0);
        }
        due.end();
    }

    private static int oneProgram(Due due) {
        Used x = new Used();
        Model model = new Model();
        int most = 1 + random.nextInt(14);
        for (int k = 0; k < most; k++) {
            String number = Maker.number(random);
            String statement = random.nextInt(12) == 0 ? chain() : Maker.statement(random);
            if (Due.enter(x, number + statement) >= 0) {
                model.lines.put(Integer.valueOf(number), statement);
            }
            x.wipe();
        }
        x.start();
        model.begin();
        for (int k = 0; k < 5 && model.state == TapedLines.RUNNING && x.callsLeft() > CALLS_TO_COMPARE; k++) {
            int n = 1 + random.nextInt(random.nextInt(3) == 0 ? 100 : 5);
            int done = 0;
            for (int j = 0; j < n && model.state == TapedLines.RUNNING; j++) {
                done += model.step() ? 1 : 0;
            }
            String what = model.lines + " after " + n;
            due.same("run of " + what, x.run(n), done);
            compare(due, what, x, model);
        }
        return model.state;
    }

    // Loops and returns that are too many come of jumps back alone.
    private static String chain() {
        return random.nextBoolean() ? "GOSUB" + Maker.number(random) : "GOTO" + Maker.number(random);
    }

    private static void compare(Due due, String what, Used x, Model model) {
        due.same("state of " + what, x.state(), model.state);
        boolean nowhere = model.state == TapedLines.ENDED;
        due.same("place of " + what, x.place(), nowhere ? TapedLines.NONE : model.place);
        for (int k = 0; k < 8; k++) {
            due.same("variable " + k + " of " + what, x.variable(k), model.variables[k]);
        }
        for (int k = 0; k < 16; k++) {
            due.same("cell " + k + " of " + what, x.cell(k), model.cells[k]);
        }
        due.same("output of " + what, Due.output(x), model.output.toString());
    }
}
