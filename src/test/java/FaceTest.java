import java.lang.reflect.Constructor;
import java.lang.reflect.Field;
import java.lang.reflect.Method;
import java.lang.reflect.Modifier;
import java.util.Arrays;
import java.util.TreeSet;

/** The public face is the document's and nothing more. */
public final class FaceTest {
    private static final String[] FACE = {
        "int feed int int int int int", "int text int", "int fault int", "int terms int int", "int body int int",
        "int sign int int int", "int bare int", "int after int int", "int note int int", "long begin int int",
        "long length int int", "long borrowed int int int", "long tone int int", "int milliseconds int",
        "int sounds int int", "long when int int int", "int called int int", "int at int int", "long bar int int",
        "int inKey int int int", "int would int int", "int fastest", "int bears int", "int instead int int",
        "int richest int", "int quick", "int greediest", "long count int"};

    private static String told(Method method) {
        StringBuilder all = new StringBuilder(method.getReturnType() + " " + method.getName());
        for (Class<?> type : method.getParameterTypes()) {
            all.append(' ').append(type);
        }
        return all.toString();
    }

    private static void lookAtMethods() {
        TreeSet<String> open = new TreeSet<>();
        TreeSet<String> names = new TreeSet<>();
        for (Method method : OrnamentsOut.class.getDeclaredMethods()) {
            if (!Modifier.isPrivate(method.getModifiers())) {
                open.add(told(method));
                names.add(method.getName());
                Checks.holds(method + " is public and no more", method.getModifiers() == Modifier.PUBLIC);
            }
        }
        Checks.holds("methods are the face's: " + open, open.equals(new TreeSet<>(Arrays.asList(FACE))));
        for (Method method : OrnamentsOut.class.getDeclaredMethods()) {
            boolean own = Modifier.isPrivate(method.getModifiers());
            Checks.holds(method + " has a name of its own", !own || !names.contains(method.getName()));
        }
        for (Class<?> inside : OrnamentsOut.class.getDeclaredClasses()) {
            int has = inside.getModifiers();
            Checks.holds(inside + " is static, not public", Modifier.isStatic(has) && !Modifier.isPublic(has));
            for (Method method : inside.getDeclaredMethods()) {
                Checks.holds(method + " has a name of its own", !names.contains(method.getName()));
            }
        }
    }

    private static void lookAtFields() {
        for (Field field : OrnamentsOut.class.getDeclaredFields()) {
            boolean open = !Modifier.isPrivate(field.getModifiers());
            Checks.holds(field + " is private, or NONE", !open || field.getName().equals("NONE"));
            boolean isStatic = Modifier.isStatic(field.getModifiers());
            Checks.holds(field + " is final, if static", !isStatic || Modifier.isFinal(field.getModifiers()));
        }
    }

    public static void main(String[] args) {
        Checks.due("NONE", OrnamentsOut.NONE, -1);
        Checks.due("class is", OrnamentsOut.class.getModifiers(), Modifier.PUBLIC | Modifier.FINAL);
        Constructor<?>[] constructors = OrnamentsOut.class.getDeclaredConstructors();
        Checks.due("constructors", constructors.length, 1);
        Checks.holds("constructor is public", Modifier.isPublic(constructors[0].getModifiers()));
        Checks.due("constructor takes", constructors[0].getParameterCount(), 0);
        lookAtMethods();
        lookAtFields();
        Checks.end("FaceTest");
    }
}
