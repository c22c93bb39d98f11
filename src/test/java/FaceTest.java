import java.lang.reflect.Constructor;
import java.lang.reflect.Field;
import java.lang.reflect.Method;
import java.lang.reflect.Modifier;
import java.util.ArrayList;
import java.util.Arrays;
import java.util.List;
import java.util.Set;
import java.util.TreeSet;
import java.util.stream.Collectors;

/** "The public face": the class has all that the document shows, and nothing else can be seen of it. */
public final class FaceTest {
    private static final Checks CHECKS = new Checks("FaceTest");

    /** As the document writes them, without the names of the arguments. */
    private static final List<String> METHODS = List.of(
        "int feed(int, int, int, int, int)",
        "int key(int)",
        "int bore(int, int, int)",
        "int fault(int)",
        "int strike(int)",
        "boolean land(int, int)",
        "boolean ground(int, int, int)",
        "boolean bounds(int, int, int)",
        "boolean price(int, int)",
        "boolean reads(int, int, int, int, int, int)",
        "boolean value(int, int)",
        "int layer(int, int, int)",
        "int told(int, int)",
        "int look(int, int) throws IndexOutOfBoundsException, NoSuchElementException",
        "int like(int, int)",
        "int chance(int, int, int, int)",
        "int leftOut(int, int)",
        "int draw(int, boolean, int)",
        "int drawn(int)",
        "int plan(int, int, int)",
        "int planned(int, int)",
        "int turned(int, int)",
        "int maps(int, int)",
        "int worth(int, int)",
        "int hands(int, int, int)",
        "int count(int)");

    public static void main(String[] args) {
        theClass();
        theConstant();
        theConstructor();
        theMethods();
        nothingElseCanBeSeen();
        CHECKS.end();
    }

    /** "public final class ClodDesk" */
    private static void theClass() {
        CHECKS.due("public", Modifier.isPublic(ClodDesk.class.getModifiers()), true);
        CHECKS.due("final", Modifier.isFinal(ClodDesk.class.getModifiers()), true);
        CHECKS.due("no package", ClodDesk.class.getPackageName().isEmpty(), true);
        CHECKS.due("nothing above it", ClodDesk.class.getSuperclass() == Object.class, true);
        CHECKS.due("no interfaces", ClodDesk.class.getInterfaces().length, 0);
    }

    /** "public static final int NONE = -1" */
    private static void theConstant() {
        for (Field f : ClodDesk.class.getFields()) {
            boolean constant = Modifier.isStatic(f.getModifiers()) && Modifier.isFinal(f.getModifiers());
            CHECKS.due(f.getName() + " is NONE, an int", f.getName().equals("NONE") && f.getType() == int.class, true);
            CHECKS.due(f.getName() + " is a constant", constant, true);
        }
        CHECKS.due("one constant", ClodDesk.class.getFields().length, 1);
        CHECKS.due("NONE", ClodDesk.NONE, -1);
    }

    /** "public ClodDesk()" */
    private static void theConstructor() {
        Constructor<?>[] all = ClodDesk.class.getDeclaredConstructors();
        CHECKS.due("one constructor", all.length, 1);
        CHECKS.due("public", Modifier.isPublic(all[0].getModifiers()), true);
        CHECKS.due("without arguments", all[0].getParameterCount(), 0);
    }

    private static void theMethods() {
        Set<String> found = new TreeSet<>();
        for (Method m : ClodDesk.class.getDeclaredMethods()) {
            if (Modifier.isPublic(m.getModifiers())) {
                found.add(written(m));
                CHECKS.due(m.getName() + " is of an object", Modifier.isStatic(m.getModifiers()), false);
            }
        }
        for (String method : METHODS) {
            CHECKS.due("there is " + method, found.contains(method), true);
        }
        found.removeAll(METHODS);
        CHECKS.due("beyond the face: " + found, found.size(), 0);
    }

    private static String written(Method m) {
        String arguments = Arrays.stream(m.getParameterTypes()).map(Class::getSimpleName).collect(Collectors.joining(", "));
        String thrown = Arrays.stream(m.getExceptionTypes()).map(Class::getSimpleName).collect(Collectors.joining(", "));
        return m.getReturnType().getSimpleName() + " " + m.getName() + "(" + arguments + ")"
            + (thrown.isEmpty() ? "" : " throws " + thrown);
    }

    /** LANGUAGE.md, rule 1: what is not of the face is private; a class inside is static and not public. */
    private static void nothingElseCanBeSeen() {
        List<String> seen = new ArrayList<>();
        for (Field f : ClodDesk.class.getDeclaredFields()) {
            if (!Modifier.isPrivate(f.getModifiers()) && !f.getName().equals("NONE")) {
                seen.add(f.getName());
            }
        }
        for (Method m : ClodDesk.class.getDeclaredMethods()) {
            if (!Modifier.isPrivate(m.getModifiers()) && !Modifier.isPublic(m.getModifiers())) {
                seen.add(m.getName());
            }
        }
        for (Class<?> inside : ClodDesk.class.getDeclaredClasses()) {
            int how = inside.getModifiers();
            if (!Modifier.isStatic(how) || Modifier.isPublic(how) || Modifier.isProtected(how)) {
                seen.add(inside.getSimpleName());
            }
        }
        CHECKS.due("seen beside the face: " + seen, seen.size(), 0);
    }
}
