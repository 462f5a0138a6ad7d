import java.lang.reflect.Constructor;
import java.lang.reflect.Field;
import java.lang.reflect.Method;
import java.lang.reflect.Modifier;
import java.util.Arrays;
import java.util.TreeSet;

/** The public face: what the document lists and nothing else, with the exceptions that it names. */
public final class FaceTest {
    private static final String[] METHODS = {
        "int box(int, int) IllegalArgumentException IllegalStateException IndexOutOfBoundsException",
        "int set(int, int, int) IllegalArgumentException IndexOutOfBoundsException",
        "int least(int) IndexOutOfBoundsException",
        "int most(int) IndexOutOfBoundsException",
        "int layout(int, int) IllegalArgumentException",
        "int frame(int, int) IllegalArgumentException IllegalStateException IndexOutOfBoundsException",
        "int column(int, int) IllegalStateException IndexOutOfBoundsException UnsupportedOperationException",
        "int hit(int, int) IllegalStateException",
        "int boxes()",
        "boolean laidOut()",
    };

    public static void main(String[] args) {
        Check check = new Check();
        check.yes("public and final", PageLayouter.class.getModifiers() == (Modifier.PUBLIC | Modifier.FINAL));
        check.yes("methods " + seenMethods(), seenMethods().equals(new TreeSet<>(Arrays.asList(METHODS))));
        check.yes("constants " + seenFields(), seenFields().equals(new TreeSet<>(Arrays.asList("AUTO", "NONE"))));
        Constructor<?>[] constructors = PageLayouter.class.getDeclaredConstructors();
        check.same("constructors", constructors.length, 1);
        check.same("parameters of the constructor", constructors[0].getParameterCount(), 0);
        check.yes("the constructor is public", Modifier.isPublic(constructors[0].getModifiers()));
        check.end();
    }

    private static TreeSet<String> seenMethods() {
        TreeSet<String> seen = new TreeSet<>();
        for (Method method : PageLayouter.class.getDeclaredMethods()) {
            if (!Modifier.isPrivate(method.getModifiers())) {
                seen.add(textOf(method));
            }
        }
        return seen;
    }

    private static String textOf(Method method) {
        String[] types = Arrays.stream(method.getParameterTypes()).map(Class::getSimpleName).toArray(String[]::new);
        StringBuilder text = new StringBuilder(method.getReturnType().getSimpleName());
        text.append(' ').append(method.getName()).append('(').append(String.join(", ", types)).append(')');
        Arrays.stream(method.getExceptionTypes()).map(Class::getSimpleName).sorted()
                .forEach(name -> text.append(' ').append(name));
        return text.toString();
    }

    private static TreeSet<String> seenFields() {
        TreeSet<String> seen = new TreeSet<>();
        for (Field field : PageLayouter.class.getDeclaredFields()) {
            if (!Modifier.isPrivate(field.getModifiers())) {
                seen.add(field.getName());
            }
        }
        return seen;
    }
}
