import java.lang.reflect.Constructor;
import java.lang.reflect.Field;
import java.lang.reflect.Method;
import java.lang.reflect.Modifier;
import java.util.Set;
import java.util.TreeSet;

/** The public face: its calls and constants and no other; rules 1, 2 and 5 of LANGUAGE.md as far as a class shows them. */
public final class FaceTest {
    private static final Check check = new Check();
    private static final String FACE = "int word(int) int alter(int,int) int sender(int,int) int of(int,int)"
        + " int shows(int,int) int meaning(int) int say(int,int) int row(int,int,int) int feed(int) int ward()"
        + " int told(int) int pass(int) int saying(int,int,int) int hours(int,int) int senders(int,int)"
        + " int meant(int,int) int passed(int,int) int see(int,int) int can(int,int) int when(int,int)"
        + " long odds(int,int,int) long mean(int) int relay(int) int ends(int,int) int book(int,int) int looked()"
        + " int judge(int,int) int image() int undo() int act(int,int,int) int trace(int) int taken(int,int)"
        + " int count(int) int tape(int,int,int) int item(int,int,long) long read(int,int)"
        + " int shift(int,int,int,int,int)";

    public static void main(String[] args) {
        constants();
        calls();
        fields();
        inside();
        check.end();
    }

    private static void constants() {
        check.due("NONE", SignalBlind.NONE, -1);
        check.due("BAD", SignalBlind.BAD, -2);
        check.due("STATE", SignalBlind.STATE, -3);
        check.due("FULL", SignalBlind.FULL, -4);
        check.due("NO", SignalBlind.NO, Long.MIN_VALUE);
    }

    private static void no(String what, boolean wrong) {
        check.due(what, wrong ? 1 : 0, 0);
    }

    private static void calls() {
        Set<String> wanted = new TreeSet<>();
        String[] parts = FACE.split(" ");
        for (int k = 0; k < parts.length; k += 2) {
            wanted.add(parts[k] + " " + parts[k + 1]);
        }
        check.due("calls of the face", wanted.size(), 37);
        Set<String> names = new TreeSet<>();
        Set<String> found = new TreeSet<>();
        for (Method m : SignalBlind.class.getDeclaredMethods()) {
            StringBuilder told = new StringBuilder(m.getReturnType() + " " + m.getName() + "(");
            for (Class<?> type : m.getParameterTypes()) {
                told.append(told.charAt(told.length() - 1) == '(' ? "" : ",").append(type);
            }
            if (Modifier.isPublic(m.getModifiers())) {
                found.add(told + ")");
                names.add(m.getName());
            }
            no("static on the face: " + m, Modifier.isPublic(m.getModifiers()) && Modifier.isStatic(m.getModifiers()));
        }
        no("the face is " + found, !found.equals(wanted));
        for (Method m : SignalBlind.class.getDeclaredMethods()) {
            boolean hidden = Modifier.isPrivate(m.getModifiers());
            no("neither public nor private: " + m, !hidden && !Modifier.isPublic(m.getModifiers()));
            no("private, of a public name: " + m, hidden && names.contains(m.getName()));
        }
        no("not public and final", (SignalBlind.class.getModifiers() & (Modifier.PUBLIC | Modifier.FINAL))
            != (Modifier.PUBLIC | Modifier.FINAL));
        Constructor<?>[] made = SignalBlind.class.getDeclaredConstructors();
        check.due("constructors", made.length, 1);
        check.due("parameters of the constructor", made[0].getParameterCount(), 0);
        no("the constructor is not public", !Modifier.isPublic(made[0].getModifiers()));
    }

    private static void fields() {
        Set<String> shown = new TreeSet<>();
        for (Field f : SignalBlind.class.getDeclaredFields()) {
            if (!Modifier.isPrivate(f.getModifiers())) {
                shown.add(f.getName());
            }
            no("static, not final: " + f, Modifier.isStatic(f.getModifiers()) && !Modifier.isFinal(f.getModifiers()));
        }
        no("fields shown: " + shown, !shown.equals(Set.of("NONE", "BAD", "STATE", "FULL", "NO")));
    }

    private static void inside() {
        Class<?>[] inside = SignalBlind.class.getDeclaredClasses();
        no("more than twelve classes", inside.length + 1 > 12);
        for (Class<?> one : inside) {
            no("not static: " + one, !Modifier.isStatic(one.getModifiers()));
            no("shown: " + one, (one.getModifiers() & (Modifier.PUBLIC | Modifier.PROTECTED)) != 0);
            for (Field f : one.getDeclaredFields()) {
                no("static, not final: " + f, Modifier.isStatic(f.getModifiers()) && !Modifier.isFinal(f.getModifiers()));
            }
        }
    }
}
