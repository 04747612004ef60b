import java.lang.reflect.Constructor;
import java.lang.reflect.Field;
import java.lang.reflect.Method;
import java.lang.reflect.Modifier;
import java.util.Set;
import java.util.TreeSet;

/** The public face is the document's, and nothing else can be seen from outside. */
public final class FaceTest {
    private static final Set<String> METHODS = Set.of("thread(int)", "row(int,int,int)", "mark()", "byteAt(int)",
        "flip(int,int)", "put(int)", "cut(int)", "choose(int,int)", "read(int)", "kept(int,int)", "merged(int)",
        "count(int)");

    public static void main(String[] args) {
        Check check = new Check();
        check.isTrue("the class is public and final",
            Modifier.isPublic(TracePacks.class.getModifiers()) && Modifier.isFinal(TracePacks.class.getModifiers()));
        check.equal("NONE", TracePacks.NONE, -1);
        methods(check);
        fields(check);
        Constructor<?>[] constructors = TracePacks.class.getDeclaredConstructors();
        check.isTrue("one public constructor without arguments", constructors.length == 1
            && Modifier.isPublic(constructors[0].getModifiers()) && constructors[0].getParameterCount() == 0);
        check.end();
    }

    private static void methods(Check check) {
        Set<String> seen = new TreeSet<>();
        for (Method m : TracePacks.class.getDeclaredMethods()) {
            if (!Modifier.isPrivate(m.getModifiers())) {
                String types = "";
                for (Class<?> type : m.getParameterTypes()) {
                    types += (types.isEmpty() ? "" : ",") + type.getName();
                }
                seen.add(m.getName() + "(" + types + ")");
                check.isTrue(m + " is a public method that answers an int",
                    m.getReturnType() == int.class && m.getModifiers() == Modifier.PUBLIC);
            }
        }
        check.isTrue("the methods are " + seen, seen.equals(new TreeSet<>(METHODS)));
    }

    private static void fields(Check check) {
        for (Field f : TracePacks.class.getDeclaredFields()) {
            boolean isNone = f.getName().equals("NONE");
            check.isTrue(f + " is private", isNone || Modifier.isPrivate(f.getModifiers()));
            check.isTrue(f + " is public, static and final", !isNone
                || f.getModifiers() == (Modifier.PUBLIC | Modifier.STATIC | Modifier.FINAL));
        }
    }
}
