import java.lang.reflect.InvocationTargetException;
import java.lang.reflect.Method;
import java.lang.reflect.Modifier;
import java.util.ArrayList;
import java.util.Arrays;
import java.util.Comparator;
import java.util.List;
import java.util.Random;

/**
 * All promises: whatever is called with whatever arguments (by fixed seeds), nothing is thrown but
 * what the call names, of just that class, and a call that throws leaves the book composed.
 */
public final class ExtremesTest {

    private static final int[] NUMBERS = {Integer.MIN_VALUE, Integer.MIN_VALUE + 1, -2, -1, 9, 10,
        11, 14, 15, 20, 21, 30, 31, 60, 100, Integer.MAX_VALUE / 2, Integer.MAX_VALUE - 1,
        Integer.MAX_VALUE};

    private static final Due due = new Due("ExtremesTest");

    private ExtremesTest() { }

    private static List<Method> calls() {
        List<Method> calls = new ArrayList<>();
        for (Method method : Facingleaf.class.getDeclaredMethods()) {
            if (Modifier.isPublic(method.getModifiers())) {
                calls.add(method);
            }
        }
        calls.sort(Comparator.comparing(Method::getName));
        return calls;
    }

    private static Object[] arguments(Method call, Random random) {
        Object[] arguments = new Object[call.getParameterCount()];
        for (int k = 0; k < arguments.length; k++) {
            int number = random.nextInt(8) > 0 ? random.nextInt(4)
                : NUMBERS[random.nextInt(NUMBERS.length)];
            arguments[k] = call.getParameterTypes()[k] == boolean.class
                ? (Object) random.nextBoolean() : (Object) number;
        }
        return arguments;
    }

    private static void play(long seed, List<Method> calls) throws IllegalAccessException {
        Random random = new Random(seed);
        Facingleaf x = new Facingleaf();
        for (int made = 0; made < 200; made++) {
            // words and paragraphs come often, so that there is something to ask for
            String name = random.nextInt(4) > 0 ? "" : random.nextInt(3) > 0 ? "word" : "paragraph";
            Method call = calls.get(random.nextInt(calls.size()));
            for (Method one : calls) {
                call = one.getName().equals(name) ? one : call;
            }
            Object[] arguments = arguments(call, random);
            boolean before = x.isComposed();
            try {
                call.invoke(x, arguments);
            } catch (InvocationTargetException e) {
                String told = call.getName() + Arrays.toString(arguments) + " of seed " + seed;
                due.is(told + " throws what it names: " + e.getCause(),
                    List.of(call.getExceptionTypes()).contains(e.getCause().getClass()), true);
                due.is(told + " changes nothing", x.isComposed(), before);
            }
        }
    }

    public static void main(String[] args) throws IllegalAccessException {
        List<Method> calls = calls();
        for (long seed = 0; seed < 500; seed++) {
            play(seed, calls);
        }
        due.end();
    }
}
