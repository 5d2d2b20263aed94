import java.lang.reflect.Constructor;
import java.lang.reflect.Field;
import java.lang.reflect.Method;
import java.lang.reflect.Modifier;
import java.util.TreeSet;

/** The public face is just the document's, and nothing else is seen from outside. */
public final class FaceTest {
    private static final String[] METHODS = {
        "boolean draft(int)", "boolean sheet(int,int)", "boolean entry(int,long)", "int lay(int)",
        "int seal() IllegalStateException", "boolean list()", "int fraction(long,long)", "int count(int)",
        "long told(int,int) NoSuchElementException",
        "long step(long) IllegalStateException NoSuchElementException ArithmeticException",
        "long run(long,int) IllegalArgumentException IllegalStateException NoSuchElementException"
            + " ArithmeticException",
        "int until(long,long,int)", "int height(long,int)",
        "long peak(long,int) IllegalArgumentException IllegalStateException ArithmeticException",
        "int word(long,int)", "int rest(int)", "int clear()", "int shape()", "int ring()", "int rings(int)",
        "int falls(int)", "int least(int,int)", "int back(long)", "long whole(long)", "int backs(long,int)",
        "int both()", "int turn()", "int drift()", "int fixed()", "int act(int,int,int,int)", "int scrap()",
        "int go(int,int,int,int,int)", "int made()",
        "long begins(int,int,int,int) IllegalArgumentException ArithmeticException",
        "int law(int,int,int,int,int)", "long row(int) NoSuchElementException"
    };

    public static void main(String[] args) {
        Class<?> face = StepBench.class;
        Due.is("StepBench is public and final", Modifier.PUBLIC | Modifier.FINAL,
            face.getModifiers() & (Modifier.PUBLIC | Modifier.FINAL));
        Due.is("NONE", -1, StepBench.NONE);
        Due.is("SPENT", -2, StepBench.SPENT);
        methods(face);
        fields(face);
        constructors(face);
        for (Class<?> inside : face.getDeclaredClasses()) {
            int how = inside.getModifiers();
            Due.is(inside.getName() + " is static and not public", true,
                Modifier.isStatic(how) && !Modifier.isPublic(how) && !Modifier.isProtected(how));
        }
        Due.close("FaceTest");
    }

    private static void methods(Class<?> face) {
        TreeSet<String> due = new TreeSet<>();
        TreeSet<String> names = new TreeSet<>();
        for (String one : METHODS) {
            due.add(one);
            names.add(one.substring(one.indexOf(' ') + 1, one.indexOf('(')));
        }
        TreeSet<String> seen = new TreeSet<>();
        for (Method one : face.getDeclaredMethods()) {
            if (Modifier.isPrivate(one.getModifiers())) {
                Due.is("private " + one.getName() + " bears a public name", false, names.contains(one.getName()));
            } else {
                Due.is(one.getName() + " is public", true, Modifier.isPublic(one.getModifiers()));
                seen.add(signature(one));
            }
        }
        Due.text("the methods", due.toString(), seen.toString());
    }

    private static String signature(Method one) {
        StringBuilder text = new StringBuilder();
        text.append(one.getReturnType().getName()).append(' ').append(one.getName()).append('(');
        Class<?>[] parameters = one.getParameterTypes();
        for (int i = 0; i < parameters.length; i++) {
            text.append(i == 0 ? "" : ",").append(parameters[i].getName());
        }
        text.append(')');
        for (Class<?> thrown : one.getExceptionTypes()) {
            text.append(' ').append(thrown.getSimpleName());
        }
        return text.toString();
    }

    private static void fields(Class<?> face) {
        TreeSet<String> seen = new TreeSet<>();
        for (Field one : face.getDeclaredFields()) {
            int how = one.getModifiers();
            if (Modifier.isStatic(how)) {
                Due.is(one.getName() + " is final", true, Modifier.isFinal(how));
            }
            if (!Modifier.isPrivate(how)) {
                seen.add(Modifier.toString(how) + " " + one.getType() + " " + one.getName());
            }
        }
        Due.text("the constants", "[public static final int NONE, public static final int SPENT]", seen.toString());
    }

    private static void constructors(Class<?> face) {
        Constructor<?>[] all = face.getDeclaredConstructors();
        Due.is("constructors", 1, all.length);
        Due.text("the constructor", "public StepBench()", all[0].toString());
    }
}
