import java.lang.reflect.Constructor;
import java.lang.reflect.Field;
import java.lang.reflect.Method;
import java.lang.reflect.Modifier;
import java.util.TreeSet;

/** The document's face, and promise 1: a new object. */
public final class FaceTest {
    private static final String[] METHODS = {
        "boolean type(char)", "int wipe()", "int enter()", "int lines()", "int list(int)", "int programByte(int)",
        "void start()", "int run(int)", "int state()", "int place()", "int variable(int)", "int cell(int)",
        "int output()", "int save()", "int load()", "void wobble(int,int)", "int waves()", "int wave(int)",
        "int setWave(int,int)", "int length()", "char charAt(int)"};

    public static void main(String[] args) {
        Due due = new Due();
        face(due);
        constants(due);
        newObject(due);
        due.end();
    }

    private static void face(Due due) {
        TreeSet<String> got = new TreeSet<>();
        for (Method m : TapedLines.class.getDeclaredMethods()) {
            if (!Modifier.isPrivate(m.getModifiers())) {
                got.add(told(m));
            }
        }
        due.same("methods", got.toString(), new TreeSet<>(java.util.List.of(METHODS)).toString());
        TreeSet<String> fields = new TreeSet<>();
        for (Field f : TapedLines.class.getDeclaredFields()) {
            if (!Modifier.isPrivate(f.getModifiers())) {
                fields.add(f.getName());
            }
        }
        due.same("fields", fields.toString(), "[ENDED, FULL, IDLE, NONE, RUNNING, TORN, WRONG]");
        due.holds("final class", Modifier.isFinal(TapedLines.class.getModifiers()));
        Constructor<?>[] made = TapedLines.class.getDeclaredConstructors();
        due.same("constructors", made.length, 1);
        due.same("the constructor's parameters", made[0].getParameterCount(), 0);
        privateNames(due);
    }

    private static String told(Method m) {
        StringBuilder line = new StringBuilder(m.getReturnType() + " " + m.getName() + "(");
        for (int k = 0; k < m.getParameterCount(); k++) {
            line.append(k == 0 ? "" : ",").append(m.getParameterTypes()[k]);
        }
        return line.append(')').toString();
    }

    // LANGUAGE.md, rule 1: no private method bears the name of a public one.
    private static void privateNames(Due due) {
        TreeSet<String> names = new TreeSet<>();
        for (String method : METHODS) {
            names.add(method.substring(method.indexOf(' ') + 1, method.indexOf('(')));
        }
        for (Class<?> inside : TapedLines.class.getDeclaredClasses()) {
            due.holds(inside + " is static", Modifier.isStatic(inside.getModifiers()));
            for (Method m : inside.getDeclaredMethods()) {
                due.holds("another name for " + m, !names.contains(m.getName()));
            }
        }
        for (Method m : TapedLines.class.getDeclaredMethods()) {
            boolean hidden = Modifier.isPrivate(m.getModifiers());
            due.holds("another name for " + m, !hidden || !names.contains(m.getName()));
        }
    }

    private static void constants(Due due) {
        due.same("NONE", TapedLines.NONE, -1);
        due.same("TORN", TapedLines.TORN, -2);
        due.same("WRONG", TapedLines.WRONG, -3);
        due.same("FULL", TapedLines.FULL, -100);
        due.same("IDLE", TapedLines.IDLE, 0);
        due.same("RUNNING", TapedLines.RUNNING, 1);
        due.same("ENDED", TapedLines.ENDED, 2);
    }

    private static void newObject(Due due) {
        due.sentence("Promise 1: A new object", "No lines, an empty tape; nothing runs; page and output are empty.");
        isNew(due, new TapedLines());
        // What another object has done is not seen.
        TapedLines other = Due.started("1 a=5", "2 @(0)=6", "3 ?a", "4 GOTO 4");
        other.run(9);
        other.output();
        other.save();
        Due.type(other, "12");
        isNew(due, new TapedLines());
        due.same("nor does a new one touch it", Due.page(other), "5 ");
    }

    private static void isNew(Due due, TapedLines x) {
        due.same("length", x.length(), 0);
        due.same("charAt", x.charAt(0), ' ');
        due.same("lines", x.lines(), 0);
        due.same("waves", x.waves(), 0);
        due.same("state", x.state(), TapedLines.IDLE);
        due.same("place", x.place(), TapedLines.NONE);
        due.same("output", x.output(), 0);
        due.same("bytes", Due.bytes(x), "");
        for (int k = 0; k < 8; k++) {
            due.same("variable " + k, x.variable(k), 0);
        }
        for (int k = 0; k < 16; k++) {
            due.same("cell " + k, x.cell(k), 0);
        }
        due.same("wipe", x.wipe(), 0);
        due.same("load of an empty tape", x.load(), TapedLines.TORN);
        due.throwsThat("wave(0)", IndexOutOfBoundsException.class, () -> x.wave(0));
        due.throwsThat("programByte(0)", IndexOutOfBoundsException.class, () -> x.programByte(0));
        due.throwsThat("list(0)", IndexOutOfBoundsException.class, () -> x.list(0));
        due.throwsThat("run(1)", IllegalStateException.class, () -> x.run(1));
    }
}
