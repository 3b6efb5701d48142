import java.lang.reflect.InvocationTargetException;
import java.lang.reflect.Method;
import java.lang.reflect.Modifier;
import java.util.Arrays;
import java.util.Comparator;
import java.util.Random;

/** Any calls with any arguments in any state: none throws, and the same calls always give the same answers. */
public final class AnyCallTest {
    private static final int OBJECTS = 600;
    // with one count() ahead of each and those that tell the word, an object comes to 512 calls at most
    private static final int CALLS = 250;
    private static final int[] ODD = {-1, -2, -3, 120, 121, 300, 1001, 120000, Integer.MAX_VALUE, Integer.MIN_VALUE,
        Integer.MAX_VALUE - 1, Integer.MIN_VALUE + 1, 1 << 30, 0x27616227};

    private AnyCallTest() {
    }

    public static void main(String[] args) throws IllegalAccessException {
        Method[] methods = Arrays.stream(WordRuns.class.getDeclaredMethods())
            .filter(method -> Modifier.isPublic(method.getModifiers()))
            .sorted(Comparator.comparing(Method::getName)).toArray(Method[]::new);
        Random random = new Random(8);
        for (int object = 0; object < OBJECTS; object++) {
            String word = Words.nearPower(random, random.nextInt(121), 1 + random.nextInt(4));
            WordRuns x = Words.of(word);
            WordRuns twin = Words.of(word);
            for (int call = 0; call < CALLS; call++) {
                Method method = methods[random.nextInt(methods.length)];
                Object[] arguments = arguments(method, random, x.count(0));
                Check.due(word + " " + method.getName() + Arrays.toString(arguments), answer(method, x, arguments),
                    answer(method, twin, arguments));
            }
        }
        Check.close("AnyCallTest");
    }

    private static Object[] arguments(Method method, Random random, int letters) {
        Object[] arguments = new Object[method.getParameterCount()];
        for (int at = 0; at < arguments.length; at++) {
            boolean odd = random.nextInt(12) == 0;
            int number = odd ? ODD[random.nextInt(ODD.length)] : random.nextInt(random.nextBoolean() ? 4 : letters + 2);
            boolean flag = method.getParameterTypes()[at] == boolean.class;
            arguments[at] = flag ? (Object) random.nextBoolean() : (Object) number;
        }
        return arguments;
    }

    private static int answer(Method method, WordRuns x, Object[] arguments) throws IllegalAccessException {
        try {
            return (Integer) method.invoke(x, arguments);
        } catch (InvocationTargetException thrown) {
            Check.holds(method.getName() + Arrays.toString(arguments) + " threw " + thrown.getCause(), false);
            return 0;
        }
    }
}
