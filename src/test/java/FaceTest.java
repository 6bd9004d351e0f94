import java.lang.reflect.Constructor;
import java.lang.reflect.Field;
import java.lang.reflect.Method;
import java.lang.reflect.Modifier;
import java.util.Arrays;
import java.util.List;
import java.util.Set;
import java.util.TreeSet;

/** The public face: just the constants, constructor and methods of the document. */
public final class FaceTest {
    private static final List<String> METHODS = List.of(
        "void make(int,int) throws IllegalArgumentException",
        "int edge(int,int,int,int)",
        "void limit(int,int) throws IndexOutOfBoundsException,IllegalArgumentException",
        "void weigh(int,int) throws IndexOutOfBoundsException,IllegalArgumentException",
        "int count(int)",
        "int rank(int,int)",
        "int free(int,int)",
        "int circuit(int,int,int)",
        "int closure(int,int)",
        "int most()",
        "int dearest(int)",
        "int weight(int) throws IllegalArgumentException",
        "int heaviest()",
        "int witness(int)",
        "int check()");

    public static void main(String[] args) {
        Due due = new Due("FaceTest");
        due.answer("NONE", ColourForests.NONE, -1);
        due.answer("public final", ColourForests.class.getModifiers(), Modifier.PUBLIC | Modifier.FINAL);
        checkMethods(due);
        checkOthers(due);
        due.end();
    }

    private static void checkMethods(Due due) {
        Set<String> found = new TreeSet<>();
        for (Method method : ColourForests.class.getDeclaredMethods()) {
            if (!Modifier.isPrivate(method.getModifiers()) && !method.isSynthetic()) {
                found.add(told(method));
            }
        }
        Set<String> extra = new TreeSet<>(found);
        extra.removeAll(METHODS);
        Set<String> missing = new TreeSet<>(METHODS);
        missing.removeAll(found);
        due.answer("methods beyond the document " + extra, extra.size(), 0);
        due.answer("methods of the document that are missing " + missing, missing.size(), 0);
    }

    private static String told(Method method) {
        String told = method.getReturnType() + " " + method.getName() + "(" + names(method.getParameterTypes()) + ")";
        String thrown = names(method.getExceptionTypes());
        return thrown.isEmpty() ? told : told + " throws " + thrown;
    }

    private static String names(Class<?>[] types) {
        return String.join(",", Arrays.stream(types).map(Class::getSimpleName).toList());
    }

    private static void checkOthers(Due due) {
        for (Field field : ColourForests.class.getDeclaredFields()) {
            boolean open = !Modifier.isPrivate(field.getModifiers()) && !field.isSynthetic();
            boolean constant = field.getName().equals("NONE");
            due.answer("field " + field.getName() + " is open", open ? 1 : 0, constant ? 1 : 0);
        }
        Constructor<?>[] constructors = ColourForests.class.getDeclaredConstructors();
        due.answer("constructors", constructors.length, 1);
        due.answer("constructor's parameters", constructors[0].getParameterCount(), 0);
        due.answer("constructor is public", constructors[0].getModifiers(), Modifier.PUBLIC);
    }
}
