/** Terms, RUNNING: what an E is worth. */
public final class NumbersTest {
    private static final int[] EDGES = {-32768, -32767, -16384, -257, -182, -181, -2, -1, 0, 1, 2, 181, 182, 256, 16384, 32766,
        32767};

    private static final Due due = new Due();

    public static void main(String[] args) {
        variables();
        wraps();
        wrapsAlone();
        rounds();
        signs();
        compares();
        fromTheLeft();
        ranks();
        deepest();
        nextLineIsNotRead();
        due.end();
    }

    private static String told(int value) {
        return value == -32768 ? "-32767-1" : String.valueOf(value);
    }

    /** c after c = a and b with the mark between, in a run of its own. */
    private static int worth(int a, char mark, int b) {
        Used x = Due.started("1 a=" + told(a), "2 b=" + told(b), "3 c=a" + mark + "b");
        due.same("steps of " + a + mark + b, x.run(9), 3);
        return x.variable(2);
    }

    private static void worth(String expression, int want) {
        Used x = Due.started("1 h=-32767-1", "2 g=32767", "3 a=" + expression);
        due.same("steps of " + expression, x.run(9), 3);
        due.same(expression, x.variable(0), want);
    }

    private static int wrapped(int value) {
        int low = value & 65535;
        return low > 32767 ? low - 65536 : low;
    }

    private static void variables() {
        due.sentence("Terms", "There are variables a .. h");
        for (char v = 'a'; v <= 'h'; v++) {
            Used x = Due.started("1 " + v + "=" + (v + 1), "2 @(3)=" + v, "3 ?" + v);
            due.same("steps with " + v, x.run(9), 3);
            due.same("cell 3 with " + v, x.cell(3), v + 1);
            due.same("output with " + v, Due.output(x), (v + 1) + " ");
            for (int k = 0; k < 8; k++) {
                due.same("variable " + k + " with " + v, x.variable(k), k == v - 'a' ? v + 1 : 0);
            }
        }
    }

    private static void wraps() {
        due.sentence("Terms", "Numbers are -32768 .. 32767, what comes of + - * / wraps to 16 bits");
        for (int a : EDGES) {
            for (int b : EDGES) {
                due.same(a + "+" + b, worth(a, '+', b), wrapped(a + b));
                due.same(a + "-" + b, worth(a, '-', b), wrapped(a - b));
                due.same(a + "*" + b, worth(a, '*', b), wrapped(a * b));
                if (b != 0) {
                    due.same(a + "/" + b, worth(a, '/', b), wrapped(a / b));
                }
            }
        }
        worth("g+1", -32768);
        worth("h-1", 32767);
        worth("h+h", 0);
        worth("g*g", 1);
        worth("h*h", 0);
        worth("h*-1", -32768);
        worth("h/-1", -32768);
        worth("1000*1000", 16960);
        // Each result wraps, not the last one alone.
        worth("(g+1)/2", -16384);
        worth("g+1<0", 1);
        worth("256*256/256", 0);
    }

    private static void wrapsAlone() {
        due.sentence("Terms", "Numbers are -32768 .. 32767");
        worth("-h", -32768);
        worth("--h", -32768);
        worth("-g", -32767);
        worth("-0", 0);
        worth("---4", -4);
        worth("-(h+1)", 32767);
        Used x = Due.started("1 FOR a=32767 TO 32767", "2 NEXT a");
        x.run(2);
        due.same("NEXT wraps", x.variable(0), -32768);
    }

    private static void rounds() {
        due.sentence("Terms", "/ rounds to 0");
        worth("7/2", 3);
        worth("-7/2", -3);
        worth("7/-2", -3);
        worth("-7/-2", 3);
        worth("1/2", 0);
        worth("-1/2", 0);
        worth("1/-2", 0);
        worth("0/5", 0);
        worth("h/g", -1);
        worth("g/h", 0);
        worth("h/2", -16384);
        worth("h/h", 1);
    }

    private static void signs() {
        due.sentence("Terms", "% has the sign of what is divided");
        for (int a : EDGES) {
            for (int b : EDGES) {
                if (b != 0) {
                    long rest = Math.abs((long) a) % Math.abs((long) b);
                    due.same(a + "%" + b, worth(a, '%', b), a < 0 ? -rest : rest);
                }
            }
        }
        worth("7%3", 1);
        worth("-7%3", -1);
        worth("7%-3", 1);
        worth("-7%-3", -1);
        worth("h%-1", 0);
        worth("0%5", 0);
    }

    private static void compares() {
        due.sentence("Terms", "= < > give 1 or 0");
        for (int a : EDGES) {
            for (int b : EDGES) {
                due.same(a + "=" + b, worth(a, '=', b), a == b ? 1 : 0);
                due.same(a + "<" + b, worth(a, '<', b), a < b ? 1 : 0);
                due.same(a + ">" + b, worth(a, '>', b), a > b ? 1 : 0);
            }
        }
    }

    private static void fromTheLeft() {
        due.sentence("Terms", "all from the left");
        worth("10-3-2", 5);
        worth("10-3+2", 9);
        worth("100/5/2", 10);
        worth("100/7*7", 98);
        worth("100%7*7", 14);
        worth("7*5%4", 3);
        worth("3>2>1", 0);
        worth("1<2<3", 1);
        worth("3=3=3", 0);
        worth("2>1=1", 1);
        worth("1=2>1", 0);
        worth("0<1=1", 1);
    }

    private static void ranks() {
        due.sentence("Terms", "An E is one or more SUMS with = < or > between, a sum one or more PRODUCTS with + or"
                + " - between, a product one or more ONES with * / or % between, a one is a CONSTANT 0 .. 32767, a"
                + " .. h, @ ( E ), ( E ), or - and a one.");
        worth("2+3*4", 14);
        worth("(2+3)*4", 20);
        worth("2*3+4", 10);
        worth("20-8/4", 18);
        worth("20-8%5", 17);
        worth("1+2=3", 1);
        worth("3=1+2", 1);
        worth("1<2+3", 1);
        worth("(1<2)+3", 4);
        worth("2*3>5", 1);
        worth("-2*-3", 6);
        worth("5--3", 8);
        worth("-2+3", 1);
        worth("-(2+3)", -5);
        worth("-7%3", -1);
        worth("-(7%3)", -1);
        worth("(((1+1)*2+1)*2+1)", 11);
        worth("@(@(@(0)))", 0);
        worth("0", 0);
        worth("32767", 32767);
        worth("-".repeat(51) + "1", -1);
        worth("-".repeat(52) + "1", 1);
    }

    private static void deepest() {
        due.sentence("Terms", "E lie in one another (by brackets) at most 4 deep.");
        Used x = Due.started("1 @(2)=3", "2 @(3)=4", "3 @(4)=9", "4 a=(((5)))", "5 b=@(@(@(2)))",
                "6 c=-(1-(2-(3-4)))");
        due.same("run", x.run(9), 6);
        due.same("(((5)))", x.variable(0), 5);
        due.same("@(@(@(2)))", x.variable(1), 9);
        due.same("-(1-(2-(3-4)))", x.variable(2), 2);
        Used y = Due.started("1 @((((1+1))))=(((6+1)))", "2 ?(((8)))", "3 @(@(((2)))-5)=(((-1)))",
                "4 IF (((1))) GOTO 6", "5 END", "6 FOR d=(((3))) TO (((4)))", "7 NEXT d");
        due.same("run", y.run(99), 7);
        due.same("cell 2", y.cell(2), -1);
        due.same("output", Due.output(y), "8 ");
        due.same("d", y.variable(3), 5);
    }

    private static void nextLineIsNotRead() {
        due.sentence("Terms", "Statements are done one after the other");
        // The next line's number may be a digit's or an operator's code, and how many bytes it has, too.
        for (int number = 5; number <= 99; number++) {
            Used x = Due.started("1 b=3", "2 c=12", "3 ?c", "4 a=b", number + " d=c");
            due.same("run before line " + number, x.run(9), 5);
            due.same("a before line " + number, x.variable(0), 3);
            due.same("d in line " + number, x.variable(3), 12);
            Used y = Due.started("1 c=12", number + " d=5");
            due.same("run of two before line " + number, y.run(9), 2);
            due.same("c before line " + number, y.variable(2), 12);
            Used z = Due.started("1 GOTO 4", "2 END", "3 a=1", "4 GOSUB 3", number + " END");
            due.same("jumps before line " + number, z.run(4), 4);
        }
        Used row = Due.started("1 a=4", "2 ?\"" + "x".repeat(42) + "\"", "3 b=5");
        due.same("a row of 45 bytes behind", row.run(9), 3);
        due.same("a", row.variable(0), 4);
    }
}
