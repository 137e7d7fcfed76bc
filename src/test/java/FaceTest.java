import java.lang.reflect.Constructor;
import java.lang.reflect.Field;
import java.lang.reflect.Method;
import java.lang.reflect.Modifier;
import java.util.Arrays;
import java.util.TreeSet;
import java.util.stream.Collectors;

/** The public face: its methods with their exceptions, its constant, its constructor, and nothing else. */
final class FaceTest {
    private static final String N = "NoSuchElementException";
    private static final String A = "IllegalArgumentException";
    private static final String S = "IllegalStateException";
    private static final String I = "IndexOutOfBoundsException";
    private static final String[] FACE = {
        "work/5 " + A, "told/2 " + N + " " + A, "history/3 " + N + " " + A, "lead/2 " + N, "room/5 " + A,
        "air/3 " + N + " " + I, "sheet/0 ", "row/3 " + I, "put/4 " + I, "tear/2 " + I, "feed/5 ",
        "loan/3 " + A + " " + S, "force/2 ", "barred/3 " + N + " " + A, "crate/2 " + A, "pack/2 " + N,
        "send/3 " + N + " " + A, "unpack/1 " + N, "box/2 " + N + " " + A, "hang/2 " + N, "down/1 " + N, "wall/2 " + N,
        "wait/1 " + A + " " + S, "unknown/1 " + N, "breaches/0 ", "breach/2 " + A, "step/2 " + N, "hanging/3 " + N,
        "gain/3 " + A, "tour/1 " + N, "count/1 "};

    public static void main(String[] args) {
        Class<?> face = TravellingPictures.class;
        check("the class is public and final", Modifier.isPublic(face.getModifiers()) && Modifier.isFinal(face.getModifiers()));
        methods(face);
        members(face);
        Due.end();
    }

    private static void methods(Class<?> face) {
        TreeSet<String> due = new TreeSet<>(Arrays.asList(FACE));
        TreeSet<String> names = new TreeSet<>();
        for (Method method : face.getDeclaredMethods()) {
            if (Modifier.isPublic(method.getModifiers())) {
                String exceptions = Arrays.stream(method.getExceptionTypes()).map(Class::getSimpleName)
                        .collect(Collectors.joining(" "));
                String told = method.getName() + "/" + method.getParameterCount() + " " + exceptions;
                check("the face has " + told, due.remove(told) && method.getReturnType() == int.class);
                names.add(method.getName());
            }
        }
        check("missing in the face: " + due, due.isEmpty());
        for (Method method : face.getDeclaredMethods()) {
            check(method + " is private", Modifier.isPublic(method.getModifiers())
                    || Modifier.isPrivate(method.getModifiers()) && !names.contains(method.getName()));
        }
    }

    private static void members(Class<?> face) {
        for (Field field : face.getDeclaredFields()) {
            boolean constant = field.getName().equals("NONE") && Modifier.isPublic(field.getModifiers());
            check(field + " is private", constant || Modifier.isPrivate(field.getModifiers()));
            check(field + " is final if static", !Modifier.isStatic(field.getModifiers()) || Modifier.isFinal(field.getModifiers()));
        }
        Constructor<?>[] constructors = face.getDeclaredConstructors();
        check("one constructor of no arguments", constructors.length == 1 && constructors[0].getParameterCount() == 0
                && Modifier.isPublic(constructors[0].getModifiers()));
        for (Class<?> inner : face.getDeclaredClasses()) {
            check(inner + " is private and static", Modifier.isPrivate(inner.getModifiers()) && Modifier.isStatic(inner.getModifiers()));
        }
    }

    private static void check(String what, boolean holds) {
        if (!holds) {
            Due.tell("not so: " + what);
        }
    }
}
