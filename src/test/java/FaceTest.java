import java.lang.reflect.Constructor;
import java.lang.reflect.Field;
import java.lang.reflect.Method;
import java.lang.reflect.Modifier;
import java.util.Arrays;
import java.util.TreeSet;

/** The class has the document's face and nothing else that can be seen. */
public final class FaceTest {
    private static final String[] METHODS = {
        "int add(int) throws IllegalArgumentException IllegalStateException",
        "int clear()",
        "int samples()",
        "int at(int) throws IndexOutOfBoundsException",
        "int tune(int) throws IllegalArgumentException",
        "int rate()",
        "int write(int int) throws IllegalArgumentException",
        "int read()",
        "int form() throws IllegalStateException",
        "int size()",
        "int byteAt(int) throws IndexOutOfBoundsException",
        "void poke(int int) throws IndexOutOfBoundsException IllegalArgumentException",
        "int type(long int) throws IllegalArgumentException IllegalStateException",
        "void cut(int) throws IllegalArgumentException",
        "int chunks()",
        "int chunk(int int) throws IllegalArgumentException NoSuchElementException",
    };

    public static void main(String[] args) {
        Check.same("NONE", SoundShelf.NONE, -1);
        Check.same("the class", Modifier.toString(SoundShelf.class.getModifiers()), "public final");
        methods();
        fields();
        constructors();
        for (Class<?> inside : SoundShelf.class.getDeclaredClasses()) {
            Check.isTrue(inside + " is static", Modifier.isStatic(inside.getModifiers()));
            Check.isTrue(inside + " is hidden", (inside.getModifiers() & (Modifier.PUBLIC | Modifier.PROTECTED)) == 0);
        }
        Check.end();
    }

    private static void methods() {
        TreeSet<String> got = new TreeSet<>();
        for (Method method : SoundShelf.class.getDeclaredMethods()) {
            if (!Modifier.isPrivate(method.getModifiers())) {
                Check.same(method.getName(), Modifier.toString(method.getModifiers()), "public");
                got.add(textOf(method));
            }
        }
        Check.same("methods", String.join("\n  ", got), String.join("\n  ", new TreeSet<>(Arrays.asList(METHODS))));
    }

    private static String textOf(Method method) {
        String text = method.getReturnType().getSimpleName() + " " + method.getName()
            + "(" + namesOf(method.getParameterTypes()) + ")";
        String thrown = namesOf(method.getExceptionTypes());
        return thrown.isEmpty() ? text : text + " throws " + thrown;
    }

    private static String namesOf(Class<?>[] classes) {
        return String.join(" ", Arrays.stream(classes).map(Class::getSimpleName).toList());
    }

    private static void fields() {
        for (Field field : SoundShelf.class.getDeclaredFields()) {
            String due = field.getName().equals("NONE") ? "public static final" : "private";
            Check.isTrue(field + " is " + due, Modifier.toString(field.getModifiers()).startsWith(due));
        }
    }

    private static void constructors() {
        Constructor<?>[] all = SoundShelf.class.getDeclaredConstructors();
        Check.same("constructors", all.length, 1);
        Check.same("the constructor's parameters", all[0].getParameterCount(), 0);
        Check.isTrue("the constructor is public", Modifier.isPublic(all[0].getModifiers()));
    }
}
