import java.lang.reflect.Constructor;
import java.lang.reflect.Field;
import java.lang.reflect.Method;
import java.lang.reflect.Modifier;
import java.util.TreeSet;

/** What it is, the public face, and promise 1: a new object. */
public final class FaceTest {
    private static final Due due = new Due();

    private static final String INDEX = " throws java.lang.IndexOutOfBoundsException";
    private static final String ARGUMENT = " throws java.lang.IllegalArgumentException";

    private static final String[] METHODS = {
        "public boolean type(char)", "public int wipe()", "public int enter()", "public int lines()",
        "public int list(int)" + INDEX, "public int programByte(int)" + INDEX, "public void start()",
        "public int run(int)" + ARGUMENT + ",java.lang.IllegalStateException", "public int state()",
        "public int place()", "public int variable(int)" + INDEX, "public int cell(int)" + INDEX,
        "public int output()", "public int save()", "public int load()", "public void wobble(int,int)" + ARGUMENT,
        "public int waves()", "public int wave(int)" + INDEX,
        "public int setWave(int,int)" + INDEX + ",java.lang.IllegalArgumentException", "public int length()",
        "public char charAt(int)"};

    public static void main(String[] args) {
        face();
        privateNames();
        constants();
        newObject();
        wholeWay();
        for512Calls();
        due.end();
    }

    private static void face() {
        due.sentence("The public face", "public final class TapedLines");
        TreeSet<String> got = new TreeSet<>();
        for (Method m : TapedLines.class.getDeclaredMethods()) {
            if (!Modifier.isPrivate(m.getModifiers())) {
                got.add(m.toString().replace("TapedLines.", ""));
            }
        }
        due.same("methods", got.toString(), new TreeSet<>(java.util.List.of(METHODS)).toString());
        TreeSet<String> fields = new TreeSet<>();
        for (Field f : TapedLines.class.getDeclaredFields()) {
            if (!Modifier.isPrivate(f.getModifiers())) {
                fields.add(f.toString().replace("public static final int TapedLines.", ""));
            }
        }
        due.same("fields", fields.toString(), "[ENDED, FULL, IDLE, NONE, RUNNING, TORN, WRONG]");
        int modifiers = TapedLines.class.getModifiers();
        due.same("the class", Modifier.toString(modifiers), "public final");
        Constructor<?>[] made = TapedLines.class.getDeclaredConstructors();
        due.same("constructors", made.length, 1);
        due.same("the constructor", made[0].toString(), "public TapedLines()");
    }

    private static void privateNames() {
        due.sentence("LANGUAGE.md, rule 1", "No private method bears the name of a public one.");
        TreeSet<String> names = new TreeSet<>();
        for (String method : METHODS) {
            names.add(method.substring(method.lastIndexOf(' ', method.indexOf('(')) + 1, method.indexOf('(')));
        }
        due.holds("names as type", names.contains("type") && names.size() == 21);
        for (Class<?> inside : TapedLines.class.getDeclaredClasses()) {
            due.holds(inside + " is static", Modifier.isStatic(inside.getModifiers()));
            for (Method m : inside.getDeclaredMethods()) {
                due.holds("another name for " + m, !names.contains(m.getName()));
            }
        }
        for (Method m : TapedLines.class.getDeclaredMethods()) {
            boolean hidden = Modifier.isPrivate(m.getModifiers());
            due.holds("another name for " + m, !hidden || !names.contains(m.getName()));
        }
    }

    private static void constants() {
        due.sentence("The public face", "public static final int NONE = -1;");
        due.same("NONE", TapedLines.NONE, -1);
        due.same("TORN", TapedLines.TORN, -2);
        due.same("WRONG", TapedLines.WRONG, -3);
        due.same("FULL", TapedLines.FULL, -100);
        due.same("IDLE", TapedLines.IDLE, 0);
        due.same("RUNNING", TapedLines.RUNNING, 1);
        due.same("ENDED", TapedLines.ENDED, 2);
    }

    private static void newObject() {
        due.sentence("Promise 1: A new object", "No lines, an empty tape; nothing runs; page and output are empty.");
        isNew(new Used());
        // What another object has done is not seen.
        Used other = Due.started("1 a=5", "2 @(0)=6", "3 ?a", "4 GOTO 4");
        other.run(9);
        other.output();
        other.save();
        Due.type(other, "12");
        isNew(new Used());
        due.same("nor does a new one touch it", Due.page(other), "5 ");
    }

    private static void isNew(Used x) {
        due.same("length", x.length(), 0);
        due.same("charAt", x.charAt(0), ' ');
        due.same("lines", x.lines(), 0);
        due.same("waves", x.waves(), 0);
        due.same("state", x.state(), TapedLines.IDLE);
        due.same("place", x.place(), TapedLines.NONE);
        due.same("output", x.output(), 0);
        due.same("bytes", Due.bytes(x), "");
        for (int k = 0; k < 8; k++) {
            due.same("variable " + k, x.variable(k), 0);
        }
        for (int k = 0; k < 16; k++) {
            due.same("cell " + k, x.cell(k), 0);
        }
        due.same("wipe", x.wipe(), 0);
        due.same("load of an empty tape", x.load(), TapedLines.TORN);
        due.throwsThat("wave(0)", IndexOutOfBoundsException.class, () -> x.wave(0));
        due.throwsThat("programByte(0)", IndexOutOfBoundsException.class, () -> x.programByte(0));
        due.throwsThat("list(0)", IndexOutOfBoundsException.class, () -> x.list(0));
        due.throwsThat("run(1)", IllegalStateException.class, () -> x.run(1));
    }

    private static void wholeWay() {
        due.sentence("What it is", "numbered lines are read into bytes, listed again, and run with numbers of 16"
                + " bits; the bytes go to a tape as long and short half-waves, which wobble, and come back from it.");
        Used x = new Used();
        due.same("the second line", Due.enter(x, "20 ? a * 2"), 6);
        due.same("the first line", Due.enter(x, "10FORa=32767TO9"), 18);
        due.same("bytes", Due.bytes(x), "\n\n\u0084a=32767\u00859\u0014\u0004?a*2");
        due.same("the first listed", Due.listing(x, 0), "10 FOR a=32767 TO 9");
        due.same("the second listed", Due.listing(x, 1), "20 ?a*2");
        x.start();
        due.same("run", x.run(9), 2);
        due.same("written", Due.output(x), "-2 ");
        due.same("save", x.save(), Tapes.tapeOfProgram(Due.bytes(x)).length());
        x.wobble(7, 25);
        due.same("a line goes", Due.enter(x, "10"), 6);
        due.same("load", x.load(), 2);
        due.same("it has come back", Due.listing(x, 0), "10 FOR a=32767 TO 9");
        x.start();
        due.same("run again", x.run(9), 2);
        due.same("written again", Due.output(x), "-2 ");
    }

    private static void for512Calls() {
        due.sentence("What it is", "An object is used for at most 512 calls after it has been made");
        String tape = Tapes.tapeOfProgram("\u0001\u0005a=a+1\u0002\u0006\u0083a<9\u00801\u0003\u0002?a");
        for (int kind = 0; kind < 8; kind++) {
            Used x = Due.with("1 a=a+1", "2 IF a<9 GOTO 1", "3 ?a");
            x.save();
            while (x.callsLeft() > 13) {
                oneOfKind(x, kind);
            }
            x.wipe();
            due.same("enter", Due.enter(x, "4 ?1"), 23);
            due.same("load", x.load(), 3);
            x.start();
            due.same("run", x.run(1000), 19);
            due.same("state", x.state(), TapedLines.ENDED);
            due.same("output", x.output(), 2);
            due.same("a character", x.charAt(0), '9');
            due.same("one call left", x.callsLeft(), 1);
            due.same("the 512th", x.save(), tape.length());
        }
    }

    private static void oneOfKind(Used x, int kind) {
        switch (kind) {
            case 0:
                x.save();
                break;
            case 1:
                x.load();
                break;
            case 2:
                x.start();
                break;
            case 3:
                x.type('9');
                break;
            case 4:
                x.wobble(kind, 0);
                break;
            case 5:
                x.list(2);
                break;
            case 6:
                due.throwsThat("cell 16", IndexOutOfBoundsException.class, () -> x.cell(16));
                break;
            default:
                due.same("enter of nothing", x.enter(), -1);
                break;
        }
    }
}
