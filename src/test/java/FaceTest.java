import java.lang.reflect.Constructor;
import java.lang.reflect.Field;
import java.lang.reflect.Method;
import java.lang.reflect.Modifier;
import java.util.Arrays;
import java.util.HashSet;
import java.util.List;
import java.util.Set;
import java.util.TreeSet;

/** The public face of the class, and what LANGUAGE.md says about members, fields and parameters. */
final class FaceTest {
    private static final List<String> FACE = List.of(
        "int frame(int, int, int) throws IllegalArgumentException",
        "int word(int, int) throws IndexOutOfBoundsException",
        "int look(int) throws IndexOutOfBoundsException",
        "int feed(int, int, int, int, int) throws UnsupportedOperationException",
        "void end(int) throws IllegalArgumentException",
        "void begin(boolean)",
        "int run(int) throws IllegalArgumentException, IllegalStateException",
        "int about(int) throws IllegalArgumentException",
        "int at(int, int, int) throws IllegalArgumentException, IndexOutOfBoundsException",
        "int sum(int) throws IllegalArgumentException",
        "int query(int) throws IllegalArgumentException",
        "int count(int) throws IllegalArgumentException");

    public static void main(String[] args) {
        Checks checks = new Checks("FaceTest");
        Class<?> machine = DrawingMachine.class;
        checks.due("public and final", machine.getModifiers() & 0xFFFF & ~32, Modifier.PUBLIC | Modifier.FINAL);
        Set<String> methods = new TreeSet<>();
        Set<String> names = new HashSet<>();
        for (Method method : machine.getDeclaredMethods()) {
            if (Modifier.isPublic(method.getModifiers())) {
                methods.add(written(method));
                names.add(method.getName());
            }
        }
        checks.due("methods", methods.toString(), new TreeSet<>(FACE).toString());
        checks.due("constructors", Arrays.toString(machine.getDeclaredConstructors()), "[public DrawingMachine()]");
        for (Field field : machine.getDeclaredFields()) {
            boolean shown = !Modifier.isPrivate(field.getModifiers());
            checks.due("field " + field.getName() + " is shown", shown ? 1 : 0, field.getName().equals("NONE") ? 1 : 0);
        }
        checks.due("NONE", DrawingMachine.NONE, -1);
        membersOf(checks, machine, names, false);
        Class<?>[] inside = machine.getDeclaredClasses();
        checks.due("classes in all are at most twelve", inside.length + 1 <= 12 ? 1 : 0, 1);
        for (Class<?> one : inside) {
            checks.due(one.getName() + " is static", Modifier.isStatic(one.getModifiers()) ? 1 : 0, 1);
            checks.due(one.getName() + " is not public", Modifier.isPublic(one.getModifiers()) ? 1 : 0, 0);
            membersOf(checks, one, names, true);
        }
        checks.finish();
    }

    private static String written(Method method) {
        StringBuilder text = new StringBuilder(method.getReturnType().getSimpleName());
        text.append(' ').append(method.getName()).append('(');
        text.append(String.join(", ", Arrays.stream(method.getParameterTypes()).map(Class::getSimpleName).toList())).append(')');
        if (method.getExceptionTypes().length > 0) {
            text.append(" throws ");
            text.append(String.join(", ", Arrays.stream(method.getExceptionTypes()).map(Class::getSimpleName).toList()));
        }
        return text.toString();
    }

    private static void membersOf(Checks checks, Class<?> one, Set<String> face, boolean inside) {
        int fields = 0;
        for (Field field : one.getDeclaredFields()) {
            int modifiers = field.getModifiers();
            if (Modifier.isStatic(modifiers)) {
                checks.due(field + " is final", Modifier.isFinal(modifiers) ? 1 : 0, 1);
            } else {
                fields++;
            }
        }
        checks.due(one.getName() + " has at most twenty fields", fields <= 20 ? 1 : 0, 1);
        for (Method method : one.getDeclaredMethods()) {
            checks.due(method + " has at most seven parameters", method.getParameterCount() <= 7 ? 1 : 0, 1);
            boolean isFace = !inside && Modifier.isPublic(method.getModifiers());
            if (!isFace) {
                checks.due(method + " bears a name of its own", face.contains(method.getName()) ? 1 : 0, 0);
                checks.due(method + " is private or inside", inside || Modifier.isPrivate(method.getModifiers()) ? 1 : 0, 1);
            }
        }
        for (Constructor<?> constructor : one.getDeclaredConstructors()) {
            checks.due(constructor + " has at most seven parameters", constructor.getParameterCount() <= 7 ? 1 : 0, 1);
        }
    }
}
