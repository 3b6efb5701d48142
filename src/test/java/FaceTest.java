import java.lang.reflect.Constructor;
import java.lang.reflect.Field;
import java.lang.reflect.Method;
import java.lang.reflect.Modifier;
import java.util.Arrays;
import java.util.HashSet;
import java.util.Set;
import java.util.TreeSet;

/** What can be seen of the class from outside is the face that the document tells, and nothing else. */
public final class FaceTest {
    private static final String[] FACE = {
        "feed(int, int, int, int, int)", "end(int)", "tell()", "put(int, int)", "insert(int, int)", "drop(int)",
        "turn(int, int)", "again(int, int)", "rotate(int)", "only(int, int)", "undo()", "keep(int)", "back(int)",
        "letter(int)", "border(int, int, int)", "period(int, int, int)", "root(int, int, int)",
        "lyndon(boolean, int)", "longest(boolean, int)", "run(int, int)", "runs(int)", "squares(int)", "power(int)",
        "cover(int, int, int)", "seed(int, int)", "cloak(int, int)", "mirror(int, boolean)", "mirrors(int)",
        "factors(int)", "bare(int)", "twice(boolean, int)", "phrase(int, int)", "ends(int, int)", "abel(int)",
        "often(int)", "lies(int, int, int)", "compare(int, int, int, int)", "sub(int, int, int)", "closed(int)",
        "absent(int)", "special(int)", "gapped(int, int)", "change(int, int)", "alike(int, int)", "count(int)"};

    private FaceTest() {
    }

    public static void main(String[] args) throws ReflectiveOperationException {
        checkMethods();
        checkFields();
        checkConstructors();
        checkInside();
        Check.close("FaceTest");
    }

    private static String signature(Method method) {
        String types = Arrays.toString(Arrays.stream(method.getParameterTypes()).map(Class::getName).toArray());
        return method.getName() + "(" + types.substring(1, types.length() - 1) + ")";
    }

    private static void checkMethods() {
        Set<String> seen = new TreeSet<>();
        for (Method method : WordRuns.class.getDeclaredMethods()) {
            if (Modifier.isPublic(method.getModifiers())) {
                seen.add(signature(method));
                Check.holds(method + " answers an int", method.getReturnType() == int.class);
                Check.holds(method + " is no static one", !Modifier.isStatic(method.getModifiers()));
            } else {
                Check.holds(method + " is private", Modifier.isPrivate(method.getModifiers()));
            }
        }
        Check.holds("the face is " + seen, seen.equals(new TreeSet<>(Arrays.asList(FACE))));
        Check.due("methods of promises 2 to 46", seen.size(), 45);
    }

    private static void checkFields() throws ReflectiveOperationException {
        for (Field field : WordRuns.class.getDeclaredFields()) {
            boolean none = field.getName().equals("NONE");
            Check.holds(field + " is private", none || Modifier.isPrivate(field.getModifiers()));
        }
        int modifiers = WordRuns.class.getField("NONE").getModifiers();
        Check.due("NONE", WordRuns.class.getField("NONE").getInt(null), -1);
        Check.holds("NONE is a constant",
            modifiers == (Modifier.PUBLIC | Modifier.STATIC | Modifier.FINAL));
    }

    private static void checkConstructors() {
        Constructor<?>[] all = WordRuns.class.getDeclaredConstructors();
        Check.due("constructors", all.length, 1);
        Check.holds("a public one without arguments",
            Modifier.isPublic(all[0].getModifiers()) && all[0].getParameterCount() == 0);
        Check.holds("the class is public and final",
            WordRuns.class.getModifiers() == (Modifier.PUBLIC | Modifier.FINAL));
        Check.holds("it has no class above it", WordRuns.class.getSuperclass() == Object.class);
    }

    private static void checkInside() {
        Set<String> publicNames = new HashSet<>();
        for (String signature : FACE) {
            publicNames.add(signature.substring(0, signature.indexOf('(')));
        }
        for (Method method : WordRuns.class.getDeclaredMethods()) {
            boolean shown = Modifier.isPublic(method.getModifiers());
            Check.holds(method + " bears a public name", shown || !publicNames.contains(method.getName()));
        }
        Class<?>[] inside = WordRuns.class.getDeclaredClasses();
        Check.holds("some twelve classes", inside.length + 1 <= 12);
        for (Class<?> each : inside) {
            int modifiers = each.getModifiers();
            Check.holds(each + " is private and static", Modifier.isPrivate(modifiers) && Modifier.isStatic(modifiers));
            for (Method method : each.getDeclaredMethods()) {
                Check.holds(method + " bears a public name", !publicNames.contains(method.getName()));
            }
            int fields = 0;
            for (Field field : each.getDeclaredFields()) {
                fields += Modifier.isStatic(field.getModifiers()) ? 0 : 1;
            }
            Check.holds(each + " has some twenty fields at most", fields <= 20);
        }
    }
}
