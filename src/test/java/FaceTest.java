import java.lang.reflect.Field;
import java.lang.reflect.Method;
import java.lang.reflect.Modifier;
import java.util.Set;
import java.util.TreeSet;

/** The class has just the public face of the document. */
public final class FaceTest {
    private static final Set<String> FACE = Set.of(
        "solid(2)", "fill(3)", "shell(2)", "lamp(2)", "isSolid(1)", "lamplight(1)", "skylight(1)", "lit(3)",
        "dim(1)", "darkest(0)", "faces(0)", "shady(1)", "open(0)", "serves(1)", "rooms(0)");

    private static int wrong = 0;

    public static void main(String[] args) throws NoSuchMethodException {
        Class<LightFlow> type = LightFlow.class;
        check(Modifier.isPublic(type.getModifiers()) && Modifier.isFinal(type.getModifiers()), "public and final");
        check(type.getDeclaredClasses().length == 0, "no nested class");
        check(type.getDeclaredConstructors().length == 1, "one constructor");
        check(Modifier.isPublic(type.getDeclaredConstructor().getModifiers()), "the constructor is public");
        Set<String> seen = new TreeSet<>();
        for (Method method : type.getDeclaredMethods()) {
            checkMethod(method, seen);
        }
        check(seen.equals(FACE), "the public methods are those of the document, not " + seen);
        for (Field field : type.getDeclaredFields()) {
            check(Modifier.isPrivate(field.getModifiers()), "private: " + field);
        }
        System.out.println(wrong == 0 ? "the face is as due" : "the face is not as due");
        if (wrong != 0) {
            System.exit(1);
        }
    }

    private static void checkMethod(Method method, Set<String> seen) {
        if (Modifier.isPrivate(method.getModifiers())) {
            boolean named = FACE.stream().anyMatch(name -> name.startsWith(method.getName() + "("));
            check(!named, "a private method bears a public name: " + method);
            return;
        }
        seen.add(method.getName() + "(" + method.getParameterCount() + ")");
        boolean plain = Modifier.isPublic(method.getModifiers()) && !Modifier.isStatic(method.getModifiers());
        check(plain && method.getReturnType() == int.class, "public, not static, answers an int: " + method);
        for (Class<?> parameter : method.getParameterTypes()) {
            check(parameter == int.class, "takes ints: " + method);
        }
    }

    private static void check(boolean holds, String what) {
        if (!holds) {
            wrong++;
            System.out.println("does not hold: " + what);
        }
    }
}
