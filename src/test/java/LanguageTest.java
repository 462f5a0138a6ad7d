import java.io.IOException;
import java.lang.reflect.Executable;
import java.lang.reflect.Field;
import java.lang.reflect.Method;
import java.lang.reflect.Modifier;
import java.nio.file.Files;
import java.nio.file.Path;
import java.util.Arrays;
import java.util.HashSet;
import java.util.List;
import java.util.Set;
import java.util.regex.Pattern;

/** Those rules of ../shared/LANGUAGE.md that can be seen from the class and its text. */
public final class LanguageTest {
    /** Patterns of what may not stand in the program; an arrow would be a lambda, as its switches have colons. */
    private static final String[] FORBIDDEN = {
        "\\bpackage\\b", "\\bimport\\s+(?!java\\.util\\.(ArrayList|List|Arrays|Iterator|NoSuchElementException);)",
        "->", "::", "\\bfinally\\b", "\\bsynchronized\\b", "\\bassert\\b", "\\bhashCode\\b", "\\bgetMessage\\b",
        "\\w+Exact\\b", "\\bSystem\\.(?!arraycopy\\b)", "\\bThread\\b", "\\bRandom\\b", "\\bMath\\.random\\b",
    };
    private static final List<Class<?>> CONSTANTS = Arrays.asList(int.class, long.class, boolean.class, char.class,
            String.class, int[].class, long[].class, char[].class, byte[].class);

    public static void main(String[] args) throws IOException {
        Check check = new Check();
        Class<?>[] inside = PageLayouter.class.getDeclaredClasses();
        checkText(check);
        check.yes("rule 11: at most twelve classes", inside.length < 12);
        checkClass(check, PageLayouter.class);
        for (Class<?> type : inside) {
            int modifiers = type.getModifiers();
            check.yes("rule 1: static: " + type, Modifier.isStatic(modifiers));
            check.no("rule 1: hidden: " + type, Modifier.isPublic(modifiers) || Modifier.isProtected(modifiers));
            checkClass(check, type);
        }
        checkNames(check);
        check.end();
    }

    private static void checkText(Check check) throws IOException {
        String text = Files.readString(Path.of("src/main/java/PageLayouter.java"));
        String code = text.replaceAll("(?s)/\\*.*?\\*/", "").replaceAll("\"[^\"\n]*\"", "\"\"");
        for (String pattern : FORBIDDEN) {
            check.no("LANGUAGE.md: " + pattern, Pattern.compile(pattern).matcher(code).find());
        }
        check.yes("rule 3: characters 0 to 255", text.chars().allMatch(c -> c <= 255));
    }

    private static void checkClass(Check check, Class<?> type) {
        int fields = 0;
        for (Field field : type.getDeclaredFields()) {
            if (Modifier.isStatic(field.getModifiers())) {
                check.yes("rule 5: final: " + field, Modifier.isFinal(field.getModifiers()));
                check.yes("rule 5: the type: " + field, CONSTANTS.contains(field.getType()));
            } else {
                fields++;
            }
        }
        check.yes("rule 11: at most twenty fields: " + type, fields <= 20);
        for (Executable method : type.getDeclaredMethods()) {
            check.yes("rule 11: at most seven parameters: " + method, method.getParameterCount() <= 7);
        }
        for (Executable constructor : type.getDeclaredConstructors()) {
            check.yes("rule 11: at most seven parameters: " + constructor, constructor.getParameterCount() <= 7);
        }
    }

    private static void checkNames(Check check) {
        Set<String> open = new HashSet<>();
        for (Method method : PageLayouter.class.getMethods()) {
            open.add(method.getName());
        }
        for (Method method : PageLayouter.class.getDeclaredMethods()) {
            boolean hidden = Modifier.isPrivate(method.getModifiers());
            check.no("rule 1: a name of its own: " + method, hidden && open.contains(method.getName()));
        }
    }
}
