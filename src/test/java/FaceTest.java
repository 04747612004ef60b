import java.lang.reflect.Constructor;
import java.lang.reflect.Field;
import java.lang.reflect.Method;
import java.lang.reflect.Modifier;
import java.util.Set;
import java.util.TreeSet;

/** The public face is the document's, and nothing else can be seen from outside. */
public final class FaceTest {
    private static final String INDEX = "IndexOutOfBoundsException";
    private static final String ARGUMENT = "IllegalArgumentException";
    private static final String STATE = "IllegalStateException";
    private static final Set<String> METHODS = Set.of(
        "thread(int) " + INDEX,
        "row(int,int,int) " + ARGUMENT + "," + STATE,
        "mark() " + STATE,
        "byteAt(int) " + INDEX,
        "flip(int,int) " + INDEX + "," + ARGUMENT,
        "put(int) " + ARGUMENT + "," + STATE,
        "cut(int) " + ARGUMENT,
        "choose(int,int) " + ARGUMENT,
        "read(int) " + INDEX,
        "kept(int,int) " + INDEX,
        "merged(int) " + INDEX,
        "count(int) ");

    private final Check check = new Check();

    public static void main(String[] args) {
        FaceTest test = new FaceTest();
        test.classItself();
        test.constructor();
        test.methods();
        test.constants();
        test.classesInside();
        test.check.end();
    }

    private void classItself() {
        check.about("public final class TracePacks");
        check.equal("its modifiers", TracePacks.class.getModifiers(), Modifier.PUBLIC | Modifier.FINAL);
        check.isTrue("it has no package", TracePacks.class.getPackageName().isEmpty());
        check.isTrue("it extends Object alone", TracePacks.class.getSuperclass() == Object.class
            && TracePacks.class.getInterfaces().length == 0);
    }

    private void constructor() {
        check.about("public TracePacks();");
        Constructor<?>[] constructors = TracePacks.class.getDeclaredConstructors();
        check.isTrue("one public constructor without arguments that tells no exception", constructors.length == 1
            && Modifier.isPublic(constructors[0].getModifiers()) && constructors[0].getParameterCount() == 0
            && constructors[0].getExceptionTypes().length == 0);
    }

    private void methods() {
        check.about("The public face");
        Set<String> seen = new TreeSet<>();
        for (Method m : TracePacks.class.getDeclaredMethods()) {
            if (!Modifier.isPrivate(m.getModifiers())) {
                seen.add(m.getName() + "(" + names(m.getParameterTypes()) + ") " + names(m.getExceptionTypes()));
                check.isTrue(m + " is a public method that answers an int",
                    m.getReturnType() == int.class && m.getModifiers() == Modifier.PUBLIC);
            }
        }
        check.isTrue("the methods are " + seen, seen.equals(new TreeSet<>(METHODS)));
    }

    private static String names(Class<?>[] types) {
        String names = "";
        for (Class<?> type : types) {
            names += (names.isEmpty() ? "" : ",") + type.getSimpleName();
        }
        return names;
    }

    private void constants() {
        check.about("The constants: `NONE = -1`: Nothing there.");
        check.equal("NONE", TracePacks.NONE, -1);
        for (Field f : TracePacks.class.getDeclaredFields()) {
            boolean isNone = f.getName().equals("NONE");
            check.isTrue(f + " is private", isNone || Modifier.isPrivate(f.getModifiers()));
            check.isTrue(f + " is public, static and final", !isNone
                || f.getModifiers() == (Modifier.PUBLIC | Modifier.STATIC | Modifier.FINAL));
        }
    }

    private void classesInside() {
        check.about("The public face");
        for (Class<?> inside : TracePacks.class.getDeclaredClasses()) {
            check.isTrue(inside + " is static, and can't be seen from outside", Modifier.isStatic(inside.getModifiers())
                && (inside.getModifiers() & (Modifier.PUBLIC | Modifier.PROTECTED)) == 0);
        }
    }
}
