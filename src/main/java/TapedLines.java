/** A home computer's line language and its tape; ../shared/DOC.md says what each call promises. */
public final class TapedLines {
    public static final int NONE = -1;
    public static final int TORN = -2;
    public static final int WRONG = -3;
    public static final int FULL = -100;
    public static final int IDLE = 0;
    public static final int RUNNING = 1;
    public static final int ENDED = 2;

    private static final int GOTO = 128;
    private static final int GOSUB = 129;
    private static final int RETURN = 130;
    private static final int IF = 131;
    private static final int FOR = 132;
    private static final int TO = 133;
    private static final int NEXT = 134;
    private static final int END = 135;

    private static final int NO_LINE = 1;
    private static final int NO_RETURN = 2;
    private static final int NO_LOOP = 3;
    private static final int TOO_MANY = 4;
    private static final int BY_ZERO = 5;
    private static final int NO_CELL = 6;
    private static final int NO_ROOM = 7;
    private static final int STOPPED = 10;

    private static final int FIRST_CHARACTER = 32;
    private static final int LAST_CHARACTER = 126;
    private static final int TEXT_ROOM = 60;
    private static final int OUTPUT_ROOM = 100;
    private static final int PROGRAM_ROOM = 200;
    private static final int LAST_LINE = 99;
    private static final int LAST_CONSTANT = 32767;
    private static final int DEEPEST = 4;
    private static final int MOST_STEPS = 1000;
    private static final int VARIABLES = 8;
    private static final int CELLS = 16;
    private static final int MOST_PERCENT = 50;

    // A line's number and how many bytes its statement has stand before the statement.
    private static final int HEAD = 2;

    // No statement has more than two words, so none of 198 bytes is ever spelled out longer.
    private static final int SPELLED_ROOM = 256;

    private final Sheet text;
    private final Sheet page;
    private final LineReader reader;
    private final Program program;
    private final Machine machine;
    private final Tape tape;

    public TapedLines() {
        text = new Sheet(TEXT_ROOM);
        page = new Sheet(SPELLED_ROOM);
        reader = new LineReader();
        machine = new Machine();
        program = machine.program;
        tape = new Tape();
    }

    public boolean type(char c) {
        return isCharacter(c) && text.append(c);
    }

    public int wipe() {
        int had = text.count;
        text.count = 0;
        return had;
    }

    public int enter() {
        boolean read = reader.readLine(text);
        text.count = 0;
        if (!read) {
            return -1 - reader.at;
        }
        if (!program.replace(reader.number, reader.bytes, reader.count)) {
            return FULL;
        }
        machine.state = IDLE;
        return program.count;
    }

    public int lines() {
        return program.countLines();
    }

    public int list(int i) throws IndexOutOfBoundsException {
        int line = program.lineAt(i);
        if (line == NONE) {
            throw new IndexOutOfBoundsException();
        }
        page.count = 0;
        page.appendNumber(program.bytes[line]);
        page.append(' ');
        page.spell(program.bytes, line + HEAD, program.bytes[line + 1]);
        return page.count;
    }

    public int programByte(int i) throws IndexOutOfBoundsException {
        if (i < 0 || i >= program.count) {
            throw new IndexOutOfBoundsException();
        }
        return program.bytes[i];
    }

    public void start() {
        machine.begin();
    }

    public int run(int n) throws IllegalArgumentException, IllegalStateException {
        if (n < 1 || n > MOST_STEPS) {
            throw new IllegalArgumentException();
        }
        if (machine.state != RUNNING) {
            throw new IllegalStateException();
        }
        int done = 0;
        for (int k = 0; k < n && machine.state == RUNNING; k++) {
            if (machine.settle(machine.perform())) {
                done++;
            }
        }
        return done;
    }

    public int state() {
        return machine.state;
    }

    public int place() {
        boolean somewhere = machine.state == RUNNING || machine.state > STOPPED;
        return somewhere ? program.bytes[machine.line] : NONE;
    }

    public int variable(int k) throws IndexOutOfBoundsException {
        if (k < 0 || k >= VARIABLES) {
            throw new IndexOutOfBoundsException();
        }
        return machine.variables[k];
    }

    public int cell(int k) throws IndexOutOfBoundsException {
        if (k < 0 || k >= CELLS) {
            throw new IndexOutOfBoundsException();
        }
        return machine.cells[k];
    }

    public int output() {
        page.count = 0;
        page.appendSheet(machine.written);
        return page.count;
    }

    public int save() {
        tape.record(program.bytes, program.count);
        return tape.count;
    }

    public int load() {
        int size = tape.hear();
        if (size == TORN) {
            return TORN;
        }
        if (tape.heardSum(size) != sumOf(tape.heard, size) || !reader.acceptsProgram(tape.heard, size)) {
            return WRONG;
        }
        program.become(tape.heard, size);
        machine.state = IDLE;
        return program.countLines();
    }

    public void wobble(int seed, int percent) throws IllegalArgumentException {
        if (percent < 0 || percent > MOST_PERCENT) {
            throw new IllegalArgumentException();
        }
        tape.shake(seed, percent);
    }

    public int waves() {
        return tape.count;
    }

    public int wave(int i) throws IndexOutOfBoundsException {
        if (i < 0 || i >= tape.count) {
            throw new IndexOutOfBoundsException();
        }
        return tape.lengths[i];
    }

    public int setWave(int i, int length) throws IndexOutOfBoundsException, IllegalArgumentException {
        if (i < 0 || i >= tape.count) {
            throw new IndexOutOfBoundsException();
        }
        if (length < 1 || length > Tape.MOST_LENGTH) {
            throw new IllegalArgumentException();
        }
        int was = tape.lengths[i];
        tape.lengths[i] = length;
        return was;
    }

    public int length() {
        return page.count;
    }

    public char charAt(int p) {
        return p >= 0 && p < page.count ? page.marks[p] : ' ';
    }

    private static boolean isCharacter(int code) {
        return code >= FIRST_CHARACTER && code <= LAST_CHARACTER;
    }

    private static boolean isDigit(int code) {
        return code >= '0' && code <= '9';
    }

    private static boolean isVariable(int code) {
        return code >= 'a' && code < 'a' + VARIABLES;
    }

    private static boolean isOperator(int code) {
        return tierOf(code) != NONE;
    }

    /** Which kind of row an operator stands in: 0 of sums, 1 of products, 2 of ones. */
    private static int tierOf(int code) {
        switch (code) {
            case '=':
            case '<':
            case '>':
                return 0;
            case '+':
            case '-':
                return 1;
            case '*':
            case '/':
            case '%':
                return 2;
            default:
                return NONE;
        }
    }

    private static String spelling(int word) {
        switch (word) {
            case GOTO:
                return "GOTO";
            case GOSUB:
                return "GOSUB";
            case RETURN:
                return "RETURN";
            case IF:
                return "IF";
            case FOR:
                return "FOR";
            case TO:
                return "TO";
            case NEXT:
                return "NEXT";
            default:
                return "END";
        }
    }

    private static int sumOf(int[] row, int size) {
        int sum = 0;
        for (int k = 0; k < size; k++) {
            sum += (k + 1) * row[k];
        }
        return sum & 0xFFFF;
    }

    /** A row of characters with a limit, made once and used again. */
    private static final class Sheet {
        private static final int MOST_DIGITS = 5;

        final char[] marks;
        int count;

        Sheet(int room) {
            marks = new char[room];
            count = 0;
        }

        boolean append(char c) {
            if (count >= marks.length) {
                return false;
            }
            marks[count] = c;
            count++;
            return true;
        }

        boolean hasRoomFor(int more) {
            return more <= marks.length - count;
        }

        void appendSheet(Sheet other) {
            for (int k = 0; k < other.count; k++) {
                append(other.marks[k]);
            }
        }

        void appendNumber(int value) {
            if (value < 0) {
                append('-');
            }
            int rest = Math.abs(value);
            int unit = 1;
            for (int k = 1; k < MOST_DIGITS && rest >= unit * 10; k++) {
                unit *= 10;
            }
            for (int k = 0; k < MOST_DIGITS && unit > 0; k++) {
                append((char) ('0' + rest / unit % 10));
                unit /= 10;
            }
        }

        void spell(int[] row, int from, int size) {
            for (int k = 0; k < size; k++) {
                int code = row[from + k];
                if (code < GOTO || code > END) {
                    append((char) code);
                } else {
                    appendWord(spelling(code), k > 0, k < size - 1);
                }
            }
        }

        private void appendWord(String word, boolean spaceBefore, boolean spaceBehind) {
            if (spaceBefore) {
                append(' ');
            }
            for (int k = 0; k < word.length(); k++) {
                append(word.charAt(k));
            }
            if (spaceBehind) {
                append(' ');
            }
        }
    }

    /**
     * Reads a text into a number and bytes. Each step takes a character only if what has been taken can still
     * be completed, so where a step fails, at is the fault.
     */
    private static final class LineReader {
        final int[] bytes;
        int count;
        int number;
        int at;
        private Sheet source;
        private final Sheet spelled;

        LineReader() {
            bytes = new int[SPELLED_ROOM];
            spelled = new Sheet(SPELLED_ROOM);
            source = spelled;
        }

        /** A number alone leaves no bytes. */
        boolean readLine(Sheet text) {
            open(text);
            number = readNumber(1, LAST_LINE);
            // The line's number is no part of the statement's bytes.
            count = 0;
            if (number == NONE) {
                return false;
            }
            return reachesEnd() || readStatement() && reachesEnd();
        }

        boolean acceptsProgram(int[] row, int size) {
            int last = 0;
            int from = 0;
            while (from < size) {
                if (from + HEAD >= size || row[from] <= last || row[from] > LAST_LINE) {
                    return false;
                }
                last = row[from];
                int bytesOfIt = row[from + 1];
                from += HEAD;
                if (bytesOfIt > size - from || !acceptsStatement(row, from, bytesOfIt)) {
                    return false;
                }
                from += bytesOfIt;
            }
            return size <= PROGRAM_ROOM;
        }

        // Spelled out, read and found the same, bytes are just those that a text can give.
        private boolean acceptsStatement(int[] row, int from, int size) {
            spelled.count = 0;
            spelled.spell(row, from, size);
            open(spelled);
            if (!readStatement() || !reachesEnd() || count != size) {
                return false;
            }
            for (int k = 0; k < size; k++) {
                if (bytes[k] != row[from + k]) {
                    return false;
                }
            }
            return true;
        }

        private void open(Sheet text) {
            source = text;
            at = 0;
            count = 0;
        }

        private boolean reachesEnd() {
            skipSpaces();
            return at == source.count;
        }

        private boolean readStatement() {
            switch (ahead(0)) {
                case 'G':
                    return readWord(ahead(2) == 'S' ? GOSUB : GOTO) && readLineNumber();
                case 'R':
                    return readWord(RETURN);
                case 'I':
                    return readWord(IF) && readExpression() && readWord(GOTO) && readLineNumber();
                case 'F':
                    return readWord(FOR) && readVariable() && readMark('=') && readExpression()
                            && readWord(TO) && readExpression();
                case 'N':
                    return readWord(NEXT) && readVariable();
                case 'E':
                    return readWord(END);
                case '?':
                    return readMark('?') && readPrinted();
                case '@':
                    return readMark('@') && readMark('(') && readExpression() && readMark(')')
                            && readMark('=') && readExpression();
                default:
                    return readVariable() && readMark('=') && readExpression();
            }
        }

        private boolean readWord(int word) {
            skipSpaces();
            String letters = spelling(word);
            for (int k = 0; k < letters.length(); k++) {
                if (ahead(0) != letters.charAt(k)) {
                    return false;
                }
                at++;
            }
            put(word);
            return true;
        }

        private boolean readVariable() {
            skipSpaces();
            return isVariable(ahead(0)) && take();
        }

        private boolean readMark(char mark) {
            skipSpaces();
            return ahead(0) == mark && take();
        }

        private boolean readLineNumber() {
            return readNumber(1, LAST_LINE) != NONE;
        }

        /** The number, or NONE with at on the character that it cannot have. */
        private int readNumber(int least, int most) {
            skipSpaces();
            int value = NONE;
            for (int k = at; k < source.count && isDigit(source.marks[k]); k++) {
                int digit = source.marks[k] - '0';
                // A digit behind a 0 would make that a needless zero.
                int grown = value == NONE ? digit : value * 10 + digit;
                if (value == 0 || grown < least || grown > most) {
                    return NONE;
                }
                value = grown;
                take();
            }
            return value;
        }

        private boolean readPrinted() {
            skipSpaces();
            if (ahead(0) != '"') {
                return readExpression();
            }
            take();
            for (int k = at; k < source.count; k++) {
                if (!isCharacter(source.marks[k])) {
                    return false;
                }
                take();
                if (source.marks[k] == '"') {
                    return true;
                }
            }
            return false;
        }

        // Ranks do not matter here: an E is ones with operators between, and all brackets close alike.
        private boolean readExpression() {
            int open = 0;
            boolean wantsOne = true;
            for (int k = 0; k <= SPELLED_ROOM; k++) {
                skipSpaces();
                int code = ahead(0);
                if (wantsOne && code == '-') {
                    take();
                } else if (wantsOne && (code == '(' || code == '@')) {
                    // An @ is refused here already: no E could lie in its brackets.
                    if (open + 1 >= DEEPEST) {
                        return false;
                    }
                    if (code == '@') {
                        take();
                    }
                    if (!readMark('(')) {
                        return false;
                    }
                    open++;
                } else if (wantsOne) {
                    if (!readVariable() && readNumber(0, LAST_CONSTANT) == NONE) {
                        return false;
                    }
                    wantsOne = false;
                } else if (isOperator(code)) {
                    take();
                    wantsOne = true;
                } else if (code == ')' && open > 0) {
                    take();
                    open--;
                } else {
                    return open == 0;
                }
            }
            return false;
        }

        private void skipSpaces() {
            while (at < source.count && source.marks[at] == ' ') {
                at++;
            }
        }

        private int ahead(int by) {
            return at + by < source.count ? source.marks[at + by] : NONE;
        }

        private boolean take() {
            put(source.marks[at]);
            at++;
            return true;
        }

        private void put(int code) {
            if (count < bytes.length) {
                bytes[count] = code;
                count++;
            }
        }
    }

    /** The lines as bytes; a line is told by the place of its first byte. */
    private static final class Program {
        final int[] bytes;
        int count;

        Program() {
            bytes = new int[PROGRAM_ROOM];
            count = 0;
        }

        int countLines() {
            int found = 0;
            for (int line = 0; line < count; line += HEAD + bytes[line + 1]) {
                found++;
            }
            return found;
        }

        int lineAt(int index) {
            int before = 0;
            for (int line = 0; line < count; line += HEAD + bytes[line + 1]) {
                if (before == index) {
                    return line;
                }
                before++;
            }
            return NONE;
        }

        int lineNumbered(int number) {
            int line = firstFrom(number);
            return line < count && bytes[line] == number ? line : NONE;
        }

        int behind(int line) {
            return line + HEAD + bytes[line + 1];
        }

        /** A statement without bytes takes the line away; false when there is no room. */
        boolean replace(int number, int[] statement, int size) {
            int from = firstFrom(number);
            int old = lineNumbered(number) == NONE ? from : behind(from);
            int behindNew = size == 0 ? from : from + HEAD + size;
            if (count - old + behindNew > PROGRAM_ROOM) {
                return false;
            }
            System.arraycopy(bytes, old, bytes, behindNew, count - old);
            count += behindNew - old;
            if (size > 0) {
                bytes[from] = number;
                bytes[from + 1] = size;
                System.arraycopy(statement, 0, bytes, from + HEAD, size);
            }
            return true;
        }

        void become(int[] row, int size) {
            System.arraycopy(row, 0, bytes, 0, size);
            count = size;
        }

        private int firstFrom(int number) {
            int line = 0;
            while (line < count && bytes[line] < number) {
                line += HEAD + bytes[line + 1];
            }
            return line;
        }
    }

    /** Works out the E of one statement, from the left; the first error met stays. */
    private static final class Calculator {
        private static final int ONES = 3;

        final int[] variables;
        final int[] cells;
        int error;
        private int[] bytes;
        private int at;
        private int end;

        Calculator() {
            variables = new int[VARIABLES];
            cells = new int[CELLS];
            bytes = new int[0];
        }

        void open(int[] row, int from, int behind) {
            bytes = row;
            at = from;
            end = behind;
            error = 0;
        }

        // The next line's number may look like an operator or a digit, so none is seen behind the end.
        int ahead() {
            return at < end ? bytes[at] : NONE;
        }

        int take() {
            int code = at < end ? bytes[at] : NONE;
            at++;
            return code;
        }

        int takeVariable() {
            // No program names others than a .. h; the mask keeps the index in its row all the same.
            return (take() - 'a') & (VARIABLES - 1);
        }

        int takeNumber() {
            int value = 0;
            for (int k = at; k < end && isDigit(bytes[k]); k++) {
                value = value * 10 + bytes[k] - '0';
                at++;
            }
            return value;
        }

        int expression() {
            return worth(0, 1);
        }

        /** Tier 0 is an E, 1 a sum, 2 a product, 3 a one. */
        private int worth(int tier, int depth) {
            if (error != 0) {
                return 0;
            }
            if (tier >= ONES) {
                return one(depth);
            }
            int left = worth(tier + 1, depth);
            for (int k = 0; k < PROGRAM_ROOM && error == 0 && tierOf(ahead()) == tier; k++) {
                int operator = take();
                int right = worth(tier + 1, depth);
                left = error == 0 ? combine(operator, left, right) : 0;
            }
            return left;
        }

        private int one(int depth) {
            boolean negative = false;
            for (int k = 0; k < PROGRAM_ROOM && ahead() == '-'; k++) {
                take();
                negative = !negative;
            }
            int value = 0;
            if (isDigit(ahead())) {
                value = takeNumber();
            } else if (isVariable(ahead())) {
                value = variables[takeVariable()];
            } else if (depth < DEEPEST) {
                boolean ofCell = take() == '@';
                if (ofCell) {
                    take();
                }
                int inner = worth(0, depth + 1);
                take();
                value = ofCell && error == 0 ? cellAt(inner) : inner;
            }
            return negative ? (short) -value : value;
        }

        private int cellAt(int index) {
            if (index < 0 || index >= CELLS) {
                error = NO_CELL;
                return 0;
            }
            return cells[index];
        }

        private int combine(int operator, int left, int right) {
            switch (operator) {
                case '=':
                    return left == right ? 1 : 0;
                case '<':
                    return left < right ? 1 : 0;
                case '>':
                    return left > right ? 1 : 0;
                case '+':
                    return (short) (left + right);
                case '-':
                    return (short) (left - right);
                case '*':
                    return (short) (left * right);
                default:
                    return divide(operator, left, right);
            }
        }

        private int divide(int operator, int left, int right) {
            if (right == 0) {
                error = BY_ZERO;
                return 0;
            }
            return (short) (operator == '/' ? left / right : left % right);
        }
    }

    /** Does the statements of a program; each of them answers its error, or 0. */
    private static final class Machine {
        private static final int MOST_LOOPS = 6;
        private static final int MOST_RETURNS = 6;
        private static final int LONGEST_NUMBER = 8;

        final Program program;
        final int[] variables;
        final int[] cells;
        final Sheet written;
        int state;
        int line;
        private final Calculator calculator;
        private final Sheet told;
        private final int[] loopVariables;
        private final int[] loopLimits;
        private final int[] loopLines;
        private final int[] returns;
        private int loopCount;
        private int returnCount;
        private int next;

        Machine() {
            program = new Program();
            calculator = new Calculator();
            variables = calculator.variables;
            cells = calculator.cells;
            written = new Sheet(OUTPUT_ROOM);
            told = new Sheet(LONGEST_NUMBER);
            loopVariables = new int[MOST_LOOPS];
            loopLimits = new int[MOST_LOOPS];
            loopLines = new int[MOST_LOOPS];
            returns = new int[MOST_RETURNS];
            state = IDLE;
        }

        void begin() {
            for (int k = 0; k < VARIABLES; k++) {
                variables[k] = 0;
            }
            for (int k = 0; k < CELLS; k++) {
                cells[k] = 0;
            }
            loopCount = 0;
            returnCount = 0;
            written.count = 0;
            arriveAt(0);
        }

        /** Goes on behind a statement that has been done; false when it met an error. */
        boolean settle(int error) {
            if (error != 0) {
                state = STOPPED + error;
                return false;
            }
            arriveAt(next);
            return true;
        }

        private void arriveAt(int place) {
            line = place;
            state = place < program.count ? RUNNING : ENDED;
        }

        int perform() {
            next = program.behind(line);
            calculator.open(program.bytes, line + HEAD, next);
            switch (calculator.ahead()) {
                case GOTO:
                    return jump();
                case GOSUB:
                    return jumpAndKeep();
                case RETURN:
                    return jumpBack();
                case IF:
                    return jumpIf();
                case FOR:
                    return openLoop();
                case NEXT:
                    return closeLoop();
                case END:
                    next = program.count;
                    return 0;
                case '?':
                    return write();
                case '@':
                    return setCell();
                default:
                    return setVariable();
            }
        }

        private int jump() {
            calculator.take();
            int target = program.lineNumbered(calculator.takeNumber());
            if (target == NONE) {
                return NO_LINE;
            }
            next = target;
            return 0;
        }

        private int jumpAndKeep() {
            int behind = next;
            int error = jump();
            if (error != 0) {
                return error;
            }
            if (returnCount >= MOST_RETURNS) {
                return TOO_MANY;
            }
            returns[returnCount] = behind;
            returnCount++;
            return 0;
        }

        private int jumpBack() {
            if (returnCount == 0) {
                return NO_RETURN;
            }
            returnCount--;
            next = returns[returnCount];
            return 0;
        }

        private int jumpIf() {
            calculator.take();
            int condition = calculator.expression();
            if (calculator.error != 0) {
                return calculator.error;
            }
            return condition == 0 ? 0 : jump();
        }

        private int openLoop() {
            calculator.take();
            int v = calculator.takeVariable();
            calculator.take();
            int first = calculator.expression();
            calculator.take();
            int limit = calculator.expression();
            if (calculator.error != 0) {
                return calculator.error;
            }
            // A loop of v makes its own room: it goes with all later ones.
            int old = loopOf(v);
            int slot = old == NONE ? loopCount : old;
            if (slot >= MOST_LOOPS) {
                return TOO_MANY;
            }
            variables[v] = first;
            loopVariables[slot] = v;
            loopLimits[slot] = limit;
            loopLines[slot] = next;
            loopCount = slot + 1;
            return 0;
        }

        private int closeLoop() {
            calculator.take();
            int v = calculator.takeVariable();
            int slot = loopOf(v);
            if (slot == NONE) {
                return NO_LOOP;
            }
            variables[v] = (short) (variables[v] + 1);
            if (variables[v] > loopLimits[slot]) {
                loopCount = slot;
            } else {
                loopCount = slot + 1;
                next = loopLines[slot];
            }
            return 0;
        }

        private int loopOf(int v) {
            for (int k = 0; k < loopCount; k++) {
                if (loopVariables[k] == v) {
                    return k;
                }
            }
            return NONE;
        }

        private int write() {
            calculator.take();
            if (calculator.ahead() == '"') {
                return writeRow();
            }
            int value = calculator.expression();
            if (calculator.error != 0) {
                return calculator.error;
            }
            told.count = 0;
            told.appendNumber(value);
            told.append(' ');
            if (!written.hasRoomFor(told.count)) {
                return NO_ROOM;
            }
            written.appendSheet(told);
            return 0;
        }

        private int writeRow() {
            // Between the ? with its quote and the last quote.
            int from = line + HEAD + 2;
            int behind = next - 1;
            if (!written.hasRoomFor(behind - from)) {
                return NO_ROOM;
            }
            for (int k = from; k < behind; k++) {
                written.append((char) program.bytes[k]);
            }
            return 0;
        }

        private int setCell() {
            calculator.take();
            calculator.take();
            int index = calculator.expression();
            calculator.take();
            calculator.take();
            int value = calculator.expression();
            if (calculator.error != 0) {
                return calculator.error;
            }
            if (index < 0 || index >= CELLS) {
                return NO_CELL;
            }
            cells[index] = value;
            return 0;
        }

        private int setVariable() {
            int v = calculator.takeVariable();
            calculator.take();
            int value = calculator.expression();
            if (calculator.error != 0) {
                return calculator.error;
            }
            variables[v] = value;
            return 0;
        }
    }

    /** The row of half-waves, and what was last heard from it. */
    private static final class Tape {
        static final int MOST_LENGTH = 100;
        private static final int LONG = 12;
        private static final int SHORT = 6;
        private static final int LAST_SHORT = 8;
        private static final int LONGS = 2;
        private static final int SHORTS = 4;
        private static final int BITS = 8;
        private static final int LEADING_BITS = 10;
        private static final int SUM_BYTES = 2;
        private static final int MOST_BYTES = 1 + PROGRAM_ROOM + SUM_BYTES;
        private static final int MOST_WAVES = LEADING_BITS * SHORTS + MOST_BYTES * (LONGS + BITS * SHORTS + SHORTS);

        final int[] lengths;
        final int[] heard;
        int count;
        private int at;

        Tape() {
            lengths = new int[MOST_WAVES];
            // A tape may tell of 255 bytes, though no program has as many.
            heard = new int[255 + SUM_BYTES];
            count = 0;
        }

        void record(int[] row, int size) {
            count = 0;
            for (int k = 0; k < LEADING_BITS; k++) {
                putBit(1);
            }
            putByte(size);
            for (int k = 0; k < size; k++) {
                putByte(row[k]);
            }
            int sum = sumOf(row, size);
            putByte(sum >> BITS);
            putByte(sum & 0xFF);
        }

        /** How many bytes the heard program has, or TORN. */
        int hear() {
            at = 0;
            int size = hearByte();
            if (size == TORN) {
                return TORN;
            }
            for (int k = 0; k < size + SUM_BYTES; k++) {
                heard[k] = hearByte();
                if (heard[k] == TORN) {
                    return TORN;
                }
            }
            return size;
        }

        int heardSum(int size) {
            return (heard[size] << BITS) + heard[size + 1];
        }

        void shake(int seed, int percent) {
            int x = seed;
            for (int k = 0; k < count; k++) {
                x = x * 1103515245 + 12345;
                int factor = 100 - percent + (x >>> 16) % (2 * percent + 1);
                lengths[k] = Math.max(1, Math.min(MOST_LENGTH, lengths[k] * factor / 100));
            }
        }

        private void putByte(int value) {
            putBit(0);
            for (int k = 0; k < BITS; k++) {
                putBit(value >> k & 1);
            }
            putBit(1);
        }

        private void putBit(int bit) {
            int halves = bit == 0 ? LONGS : SHORTS;
            for (int k = 0; k < halves && count < MOST_WAVES; k++) {
                lengths[count] = bit == 0 ? LONG : SHORT;
                count++;
            }
        }

        private int hearByte() {
            int bit = hearBit();
            for (int k = 0; k < count && bit == 1; k++) {
                bit = hearBit();
            }
            if (bit == TORN) {
                return TORN;
            }
            int value = 0;
            for (int k = 0; k < BITS; k++) {
                bit = hearBit();
                if (bit == TORN) {
                    return TORN;
                }
                value += bit << k;
            }
            return hearBit() == 1 ? value : TORN;
        }

        private int hearBit() {
            boolean isLong = at < count && lengths[at] > LAST_SHORT;
            int halves = isLong ? LONGS : SHORTS;
            if (halves > count - at) {
                return TORN;
            }
            for (int k = 1; k < halves; k++) {
                if ((lengths[at + k] > LAST_SHORT) != isLong) {
                    return TORN;
                }
            }
            at += halves;
            return isLong ? 0 : 1;
        }
    }
}
