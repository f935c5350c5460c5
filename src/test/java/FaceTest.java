import java.io.IOException;
import java.lang.reflect.Field;
import java.lang.reflect.Method;
import java.lang.reflect.Modifier;
import java.nio.file.Files;
import java.nio.file.Path;
import java.util.Arrays;
import java.util.Map;
import java.util.Set;
import java.util.TreeMap;
import java.util.TreeSet;
import java.util.regex.Pattern;
import java.util.stream.Collectors;

/** The public face is the document's; the file keeps to the rules of LANGUAGE.md that can be seen. */
public final class FaceTest {
    private static final Path SOURCE = Path.of("src/main/java/SelfishWays.java");
    private static final String[] NEVER = {"\\bthrow\\b", "\\btry\\b", "\\bcatch\\b", "\\bsynchronized\\b",
        "\\bassert\\b", "->", "::", "\\bpackage\\b", "Exact\\b", "\\bRandom\\b", "\\bSystem\\.(?!arraycopy)",
        "\\bstatic \\{", "\\bprotected\\b", "\\bfloat\\b", "\\bdouble\\b"};

    public static void main(String[] args) throws ReflectiveOperationException, IOException {
        Check check = new Check();
        face(check);
        classesInside(check);
        words(check);
        check.end();
    }

    private static void face(Check check) throws ReflectiveOperationException {
        Class<?> face = SelfishWays.class;
        check.holds("the class is public and final",
                Modifier.isPublic(face.getModifiers()) && Modifier.isFinal(face.getModifiers()));
        check.holds("one constructor, public, of nothing", face.getDeclaredConstructors().length == 1
                && face.getConstructors().length == 1
                && face.getConstructors()[0].getParameterCount() == 0);
        methods(check, face);
        constants(check, face);
    }

    private static void methods(Check check, Class<?> face) {
        Set<String> want = new TreeSet<>();
        for (String method : new Document().methods()) {
            // Names of arguments can't be seen in a class.
            want.add(method.replaceAll("int \\w+(?=[,)])", "int"));
        }
        Set<String> found = new TreeSet<>();
        Set<String> names = new TreeSet<>();
        for (Method m : face.getDeclaredMethods()) {
            if (Modifier.isPublic(m.getModifiers())) {
                found.add(Arrays.stream(m.getParameterTypes()).map(Class::getName)
                        .collect(Collectors.joining(", ", m.getReturnType() + " " + m.getName() + "(", ")")));
                names.add(m.getName());
                check.holds(m + " is an object's", !Modifier.isStatic(m.getModifiers()));
            }
        }
        check.holds("35 methods are told", want.size() == 35);
        check.holds("the methods are " + found + ", due are " + want, found.equals(want));
        for (Method m : face.getDeclaredMethods()) {
            check.holds(m + " is private with a name of its own", Modifier.isPublic(m.getModifiers())
                    || Modifier.isPrivate(m.getModifiers()) && !names.contains(m.getName()));
        }
    }

    private static void constants(Check check, Class<?> face) throws ReflectiveOperationException {
        Map<String, Integer> want = new Document().constants();
        Map<String, Object> found = new TreeMap<>();
        for (Field f : face.getDeclaredFields()) {
            if (Modifier.isPublic(f.getModifiers())) {
                found.put(f.getName(), f.get(null));
                check.holds(f + " is a constant", Modifier.isFinal(f.getModifiers()));
            } else {
                check.holds(f + " is private", Modifier.isPrivate(f.getModifiers()));
            }
        }
        check.holds("five constants are told", want.size() == 5);
        check.holds("the constants are " + found + ", due are " + want, found.equals(want));
    }

    private static void classesInside(Check check) {
        Set<String> names = new TreeSet<>();
        for (Method m : SelfishWays.class.getMethods()) {
            names.add(m.getName());
        }
        Class<?>[] inside = SelfishWays.class.getDeclaredClasses();
        check.holds("not more than twelve classes", inside.length < 12);
        for (Class<?> c : inside) {
            check.holds(c + " is static and not public",
                    Modifier.isStatic(c.getModifiers()) && !Modifier.isPublic(c.getModifiers()));
            long fields = Arrays.stream(c.getDeclaredFields())
                    .filter(f -> !Modifier.isStatic(f.getModifiers())).count();
            check.holds(c + " has not more than twenty fields", fields <= 20);
            for (Method m : c.getDeclaredMethods()) {
                check.holds(m + " takes at most seven", m.getParameterCount() <= 7);
                check.holds(m + " has a name of its own", !names.contains(m.getName()));
            }
            for (Field f : c.getDeclaredFields()) {
                check.holds(f + " is final, if it is static",
                        !Modifier.isStatic(f.getModifiers()) || Modifier.isFinal(f.getModifiers()));
            }
        }
    }

    private static void words(Check check) throws IOException {
        String code = Files.readString(SOURCE)
                .replaceAll("(?s)/\\*.*?\\*/", "").replaceAll("//[^\n]*", "");
        for (String never : NEVER) {
            check.holds("nowhere: " + never, !Pattern.compile(never).matcher(code).find());
        }
        check.holds("signs of 1 to 127 alone", code.chars().allMatch(c -> c >= 1 && c <= 127));
    }
}
