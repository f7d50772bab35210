import java.lang.reflect.InvocationTargetException;
import java.lang.reflect.Method;
import java.lang.reflect.Modifier;
import java.util.ArrayList;
import java.util.Comparator;
import java.util.List;

/**
 * Calls with all kinds of arguments in all kinds of states: what is thrown is one of the
 * exceptions that the document names, and none that the machine throws by itself.
 */
public final class WildTest {
    private static final int RUNS = 400;
    private static final int[] ODD = {Integer.MIN_VALUE, -301, -2, -1, 0, 1, 23, 24, 29, 30, 39, 40, 99, 100, 299, 300,
        601, Integer.MAX_VALUE};

    private static long seed = 5;

    public static void main(String[] args) throws ReflectiveOperationException {
        List<Method> face = new ArrayList<>();
        for (Method method : TwigPatch.class.getDeclaredMethods()) {
            if (Modifier.isPublic(method.getModifiers())) {
                face.add(method);
            }
        }
        face.sort(Comparator.comparing(Method::getName));
        int wrong = 0;
        for (int run = 0; run < RUNS && wrong < 5; run++) {
            TwigPatch x = new TwigPatch();
            for (int call = 0; call < 512; call++) {
                wrong += callOne(x, face.get(below(face.size())));
            }
        }
        Check.end(wrong);
    }

    private static int below(int bound) {
        seed = seed * 6364136223846793005L + 1442695040888963407L;
        return (int) ((seed >>> 33) % bound);
    }

    private static Object argument(TwigPatch x, Class<?> type) {
        if (type == boolean.class) {
            return below(2) == 0;
        }
        int choice = below(12);
        return choice == 0 ? ODD[below(ODD.length)] : choice < 5 ? below(3) : choice < 9 ? below(8) : below(40) - 1;
    }

    private static int callOne(TwigPatch x, Method method) throws ReflectiveOperationException {
        Object[] arguments = new Object[method.getParameterCount()];
        for (int i = 0; i < arguments.length; i++) {
            arguments[i] = argument(x, method.getParameterTypes()[i]);
        }
        try {
            method.invoke(x, arguments);
            return 0;
        } catch (InvocationTargetException e) {
            for (Class<?> named : method.getExceptionTypes()) {
                if (named == e.getCause().getClass()) {
                    return 0;
                }
            }
            System.out.println(method.getName() + java.util.Arrays.toString(arguments) + " threw " + e.getCause());
            return 1;
        }
    }
}
