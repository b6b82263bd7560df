import java.lang.reflect.Constructor;
import java.lang.reflect.Field;
import java.lang.reflect.Method;
import java.lang.reflect.Modifier;
import java.util.Arrays;
import java.util.TreeSet;

/** The class has the document's face and nothing else that can be seen from outside. */
public final class FaceTest {
    private static final String[] FACE = {
        "int ack(int,int)", "int bucket(int,int,int)", "int call(int,int,int,long,long)", "int client(int,int)",
        "int collect(int)", "int count(int)", "int crash(int)", "int deliver(int)", "int drop(int)",
        "int letter(int,int)", "int move(int,int,int)", "int open(int)", "int record(int,int,int,int)",
        "int renew(int)", "int retry(int,int)", "int server(int,int)", "int start(int)", "int state(int,int)",
        "int sync(int)", "int ticks(int)", "int twin(int)", "long result(int,int)", "long value(int,int)"};

    public static void main(String[] args) {
        Due due = new Due("FaceTest");
        Class<OnceCalls> face = OnceCalls.class;
        due.is("public final", face.getModifiers() & (Modifier.PUBLIC | Modifier.FINAL),
            Modifier.PUBLIC | Modifier.FINAL);
        methods(due, face);
        fields(due, face);
        Constructor<?>[] made = face.getDeclaredConstructors();
        due.is("constructors", made.length, 1);
        due.is("public constructor of two ints",
            Modifier.isPublic(made[0].getModifiers())
                && Arrays.equals(made[0].getParameterTypes(), new Class<?>[] {int.class, int.class}) ? 1 : 0, 1);
        for (Class<?> inside : face.getDeclaredClasses()) {
            due.is(inside + " static", Modifier.isStatic(inside.getModifiers()) ? 1 : 0, 1);
            due.is(inside + " public", Modifier.isPublic(inside.getModifiers()) ? 1 : 0, 0);
        }
        due.is("NONE", OnceCalls.NONE, -1);
        due.is("FULL", OnceCalls.FULL, -2);
        due.is("STATE", OnceCalls.STATE, -3);
        due.end();
    }

    private static void methods(Due due, Class<?> face) {
        TreeSet<String> seen = new TreeSet<>();
        TreeSet<String> publicNames = new TreeSet<>();
        for (Method method : face.getDeclaredMethods()) {
            if (!Modifier.isPrivate(method.getModifiers())) {
                seen.add(signature(method));
                publicNames.add(method.getName());
                due.is(method + " public and not static",
                    method.getModifiers() & (Modifier.PUBLIC | Modifier.STATIC), Modifier.PUBLIC);
            }
        }
        due.is("methods " + seen, seen.equals(new TreeSet<>(Arrays.asList(FACE))) ? 1 : 0, 1);
        for (Method method : face.getDeclaredMethods()) {
            if (Modifier.isPrivate(method.getModifiers())) {
                due.is(method + " bears a public name", publicNames.contains(method.getName()) ? 1 : 0, 0);
            }
        }
    }

    private static String signature(Method method) {
        StringBuilder text = new StringBuilder();
        for (Class<?> type : method.getParameterTypes()) {
            text.append(text.length() == 0 ? "" : ",").append(type.getName());
        }
        return method.getReturnType().getName() + " " + method.getName() + "(" + text + ")";
    }

    private static void fields(Due due, Class<?> face) {
        TreeSet<String> seen = new TreeSet<>();
        for (Field field : face.getDeclaredFields()) {
            if (!Modifier.isPrivate(field.getModifiers())) {
                seen.add(field.getName());
            }
            if (Modifier.isStatic(field.getModifiers())) {
                due.is(field + " final", Modifier.isFinal(field.getModifiers()) ? 1 : 0, 1);
            }
        }
        due.is("constants " + seen, seen.equals(new TreeSet<>(Arrays.asList("FULL", "NONE", "STATE"))) ? 1 : 0, 1);
    }
}
