import java.io.IOException;
import java.lang.reflect.Constructor;
import java.lang.reflect.Field;
import java.lang.reflect.Method;
import java.lang.reflect.Modifier;
import java.nio.file.Files;
import java.nio.file.Path;
import java.util.Arrays;
import java.util.List;
import java.util.Set;
import java.util.TreeSet;
import java.util.regex.Matcher;
import java.util.regex.Pattern;
import java.util.stream.Collectors;

/** The public face as the document writes it: its methods with their exceptions, its constant, its constructor, and nothing else. */
final class FaceTest {
    private static final Path DOCUMENT = Path.of("../shared/DOC.md");
    private static final int METHODS = 31;
    private static final Pattern METHOD = Pattern.compile("    public (\\w+) (\\w+)\\(([^)]*)\\)(?: throws ([\\w, ]+))?;");

    public static void main(String[] args) throws IOException {
        Class<?> face = TravellingPictures.class;
        check("the class is public and final", Modifier.isPublic(face.getModifiers()) && Modifier.isFinal(face.getModifiers()));
        check("the class stands in no package and is made of Object", face.getPackageName().isEmpty()
                && face.getSuperclass() == Object.class && face.getInterfaces().length == 0);
        methods(face);
        members(face);
        Due.is("NONE", -1, TravellingPictures.NONE);
        Due.end();
    }

    private static Set<String> written() throws IOException {
        Set<String> face = new TreeSet<>();
        for (String line : Files.readAllLines(DOCUMENT)) {
            Matcher method = METHOD.matcher(line);
            if (method.matches()) {
                String types = method.group(3).replaceAll("(\\w+) \\w+", "$1");
                String exceptions = method.group(4) == null ? "" : method.group(4);
                face.add(method.group(1) + " " + method.group(2) + "(" + types + ") " + exceptions);
            }
        }
        return face;
    }

    private static String names(Class<?>[] types) {
        return Arrays.stream(types).map(Class::getSimpleName).collect(Collectors.joining(", "));
    }

    private static void methods(Class<?> face) throws IOException {
        Set<String> due = written();
        Due.is("methods in the document's face", METHODS, due.size());
        List<Method> methods = Arrays.asList(face.getDeclaredMethods());
        Set<String> taken = methods.stream().filter(method -> Modifier.isPublic(method.getModifiers())).map(Method::getName)
                .collect(Collectors.toSet());
        for (Method method : methods) {
            if (Modifier.isPublic(method.getModifiers())) {
                String told = names(new Class<?>[] {method.getReturnType()}) + " " + method.getName() + "("
                        + names(method.getParameterTypes()) + ") " + names(method.getExceptionTypes());
                check("the face has " + told, due.remove(told) && !Modifier.isStatic(method.getModifiers()));
            } else {
                check(method + " is private", Modifier.isPrivate(method.getModifiers()) && !taken.contains(method.getName()));
            }
        }
        check("missing in the face: " + due, due.isEmpty());
    }

    private static void members(Class<?> face) {
        for (Field field : face.getDeclaredFields()) {
            boolean constant = field.getName().equals("NONE") && field.getType() == int.class
                    && Modifier.isPublic(field.getModifiers()) && Modifier.isStatic(field.getModifiers());
            check(field + " is private", constant || Modifier.isPrivate(field.getModifiers()));
            check(field + " is final if static", !Modifier.isStatic(field.getModifiers()) || Modifier.isFinal(field.getModifiers()));
        }
        Constructor<?>[] constructors = face.getDeclaredConstructors();
        check("one constructor of no arguments", constructors.length == 1 && constructors[0].getParameterCount() == 0
                && Modifier.isPublic(constructors[0].getModifiers()) && constructors[0].getExceptionTypes().length == 0);
        for (Class<?> inner : face.getDeclaredClasses()) {
            check(inner + " is private and static", Modifier.isPrivate(inner.getModifiers()) && Modifier.isStatic(inner.getModifiers()));
        }
    }

    private static void check(String what, boolean holds) {
        if (!holds) {
            Due.tell("not so: " + what);
        }
    }
}
