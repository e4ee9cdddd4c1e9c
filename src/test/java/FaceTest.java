import java.lang.reflect.Constructor;
import java.lang.reflect.Field;
import java.lang.reflect.Method;
import java.lang.reflect.Modifier;
import java.util.Arrays;
import java.util.Set;
import java.util.TreeSet;

/** The class has the document's face and nothing else that can be seen from outside. */
public final class FaceTest {
    private static final String IAE = "IllegalArgumentException";
    private static final String NSE = "NoSuchElementException";
    private static final String ISE = "IllegalStateException";
    private static final String UOE = "UnsupportedOperationException";
    private static final String IOB = "IndexOutOfBoundsException";
    private static final String AE = "ArithmeticException";

    public static void main(String[] args) {
        Set<String> due = new TreeSet<>();
        due.add(face("int make(int, int, int)", IAE, ISE));
        due.add(face("int give(int, int, int, double, double)", IAE, NSE, ISE, UOE));
        due.add(face("int take(int, int, double)", IAE, NSE, ISE, UOE));
        due.add(face("int swap(int, int, int, double)", IAE, NSE, ISE, UOE));
        due.add(face("int arrive(int, int, double)", IAE, NSE, ISE, UOE, AE));
        due.add(face("int reset(int)", IAE, NSE, UOE));
        due.add(face("int interrupt(int)", IAE));
        due.add(face("int tick(double)", IAE));
        due.add(face("int got(int)", IAE, NSE));
        due.add(face("int thread(int, int)", IAE));
        due.add(face("int channel(int, int)", IAE, NSE));
        due.add(face("int item(int, int)", IAE, NSE, IOB));
        due.add(face("double stay(int)", IAE, NSE, AE));
        due.add(face("double time()"));

        Set<String> seen = new TreeSet<>();
        Set<String> open = new TreeSet<>();
        Set<String> hidden = new TreeSet<>();
        for (Method m : ChannelHall.class.getDeclaredMethods()) {
            if (Modifier.isPrivate(m.getModifiers())) {
                hidden.add(m.getName());
            } else {
                seen.add(faceOf(m));
                open.add(m.getName());
            }
        }
        if (!seen.equals(due)) {
            Runs.fail("the face is " + seen + ", due is " + due);
        }
        hidden.retainAll(open);
        if (!hidden.isEmpty()) {
            Runs.fail("private methods with names of the face: " + hidden);
        }
        checkClass();
        Runs.end();
    }

    private static void checkClass() {
        int modifiers = ChannelHall.class.getModifiers();
        if (!Modifier.isPublic(modifiers) || !Modifier.isFinal(modifiers)) {
            Runs.fail("the class is not public and final");
        }
        Constructor<?>[] makers = ChannelHall.class.getDeclaredConstructors();
        if (makers.length != 1 || makers[0].getParameterCount() != 0 || !Modifier.isPublic(makers[0].getModifiers())) {
            Runs.fail("the constructors are " + Arrays.toString(makers));
        }
        for (Field f : ChannelHall.class.getDeclaredFields()) {
            if (!Modifier.isPrivate(f.getModifiers())) {
                Runs.fail("the field " + f.getName() + " is not private");
            }
            if (Modifier.isStatic(f.getModifiers()) && !Modifier.isFinal(f.getModifiers())) {
                Runs.fail("the static field " + f.getName() + " is not final");
            }
        }
        for (Class<?> inner : ChannelHall.class.getDeclaredClasses()) {
            int m = inner.getModifiers();
            if (Modifier.isPublic(m) || Modifier.isProtected(m) || !Modifier.isStatic(m)) {
                Runs.fail("the class " + inner.getName() + " inside is not private or package-visible and static");
            }
        }
    }

    private static String face(String head, String... thrown) {
        return head + " throws " + new TreeSet<>(Arrays.asList(thrown));
    }

    private static String faceOf(Method m) {
        StringBuilder head = new StringBuilder(m.getReturnType().getName() + " " + m.getName() + "(");
        String between = "";
        for (Class<?> p : m.getParameterTypes()) {
            head.append(between).append(p.getName());
            between = ", ";
        }
        String[] thrown = Arrays.stream(m.getExceptionTypes()).map(Class::getSimpleName).toArray(String[]::new);
        return face(head.append(")").toString(), thrown);
    }
}
