import java.lang.reflect.Constructor;
import java.lang.reflect.Method;
import java.lang.reflect.Modifier;
import java.util.Arrays;
import java.util.Set;
import java.util.TreeSet;

/** The public face: the class, its constant, its constructor and its methods, and no others. */
public final class FaceTest {
    private static final Set<String> FACE = Set.of(
            "int land() of []",
            "boolean rate(int, int, int) of [NoSuchElementException]",
            "int person(int, int) of [NoSuchElementException]",
            "int work(int, int, int, int, int, int) of [NoSuchElementException]",
            "int joins(int, int, int) of [NoSuchElementException]",
            "int society(int, int) of [NoSuchElementException]",
            "int evenings(int) of [IllegalArgumentException]",
            "int death(int, int, int) of [NoSuchElementException]",
            "int heir(int, int, int, int) of [NoSuchElementException]",
            "int sale(int, int, int, int, int, int, int) of [NoSuchElementException]",
            "int fact(int, int, int, int, int) of [NoSuchElementException]",
            "boolean back(boolean, int) of [NoSuchElementException]",
            "boolean claim(int, int) of [NoSuchElementException]",
            "int feed(int, int, int, int, int) of []",
            "int law(int, int, int) of [NoSuchElementException, IllegalArgumentException]",
            "int fault() of []",
            "int sold(int, int, int) of [NoSuchElementException, IllegalArgumentException]",
            "int has(int, int, int, int) of [NoSuchElementException, IllegalArgumentException]",
            "long gets(int, int, int) of [NoSuchElementException, IllegalArgumentException]",
            "long owes(int, int, int, int) of [NoSuchElementException, IllegalArgumentException]",
            "long net(int, int, int) of [NoSuchElementException, IllegalArgumentException]",
            "int payments(int, int) of [NoSuchElementException, IllegalArgumentException]",
            "int again(int, int, int, int) of [IllegalArgumentException]",
            "int with(int, int, int) of [NoSuchElementException, IllegalArgumentException]",
            "int hidden(int, int, int, int) of [NoSuchElementException, IllegalArgumentException]",
            "int attempt(int, int, int) of [NoSuchElementException, IllegalArgumentException]",
            "long more(int) of [NoSuchElementException]",
            "int count(int) of [NoSuchElementException]");

    private FaceTest() {
    }

    public static void main(String[] args) {
        Class<SalePart> face = SalePart.class;
        Due.same("the modifiers of the class", Modifier.PUBLIC | Modifier.FINAL, face.getModifiers());
        Due.same("NONE", -1, SalePart.NONE);
        Due.same("public fields", 1, face.getFields().length);
        Constructor<?>[] constructors = face.getDeclaredConstructors();
        Due.same("constructors", 1, constructors.length);
        Due.same("the constructor's parameters", 0, constructors[0].getParameterCount());
        Due.yes("the constructor is public", Modifier.isPublic(constructors[0].getModifiers()));
        methods(face);
        Due.end();
    }

    private static void methods(Class<SalePart> face) {
        Set<String> found = new TreeSet<>();
        Set<String> names = new TreeSet<>();
        for (Method method : face.getDeclaredMethods()) {
            if (!Modifier.isPrivate(method.getModifiers())) {
                found.add(told(method));
                names.add(method.getName());
            }
        }
        Due.yes("the methods " + found, found.equals(FACE));
        for (Class<?> part : face.getDeclaredClasses()) {
            Due.yes(part + " is static", Modifier.isStatic(part.getModifiers()));
            Due.no(part + " is public", Modifier.isPublic(part.getModifiers()));
            hidden(part, names);
        }
        hidden(face, names);
    }

    /** No method that isn't of the face bears the name of one of the face. */
    private static void hidden(Class<?> of, Set<String> names) {
        for (Method method : of.getDeclaredMethods()) {
            boolean ofFace = of == SalePart.class && !Modifier.isPrivate(method.getModifiers());
            Due.yes(method + " has a name of its own", ofFace || !names.contains(method.getName()));
        }
    }

    private static String told(Method m) {
        return m.getReturnType() + " " + m.getName() + names(m.getParameterTypes(), "(", ")") + " of "
                + names(m.getExceptionTypes(), "[", "]");
    }

    private static String names(Class<?>[] types, String open, String close) {
        return open + String.join(", ", Arrays.stream(types).map(Class::getSimpleName).toList()) + close;
    }
}
