import java.lang.reflect.InvocationTargetException;
import java.lang.reflect.Method;
import java.lang.reflect.Modifier;
import java.util.Arrays;
import java.util.Comparator;
import java.util.List;
import java.util.Random;

/** All calls with numbers near to and far from all limits: they throw what their throws clause names, and nothing else. */
public final class ExtremesTest {
    private static final Check CHECK = new Check("ExtremesTest");
    private static final int[] NUMBERS = {0, 1, 2, 3, 4, 5, -1, -2, -8, -9, -10, 9, 10, 12, 23, 24, 47, 48, 49, 100, 101, 127,
        128, 129, 1 << 14, 1 << 21, Integer.MAX_VALUE, Integer.MIN_VALUE, Integer.MAX_VALUE - 1, Integer.MIN_VALUE + 1};

    private ExtremesTest() {
    }

    public static void main(String[] args) throws IllegalAccessException {
        Method[] methods = Datalogmill.class.getDeclaredMethods();
        Arrays.sort(methods, Comparator.comparing(Method::getName));
        Random chance = new Random(7);
        for (int run = 0; run < 60; run++) {
            Datalogmill mill = new Datalogmill();
            for (int call = 0; call < 512; call++) {
                Method method = methods[chance.nextInt(methods.length)];
                if (Modifier.isPublic(method.getModifiers())) {
                    call(mill, method, chance, run % 3);
                }
            }
        }
        CHECK.end();
    }

    private static void call(Datalogmill mill, Method method, Random chance, int tame) throws IllegalAccessException {
        Class<?>[] types = method.getParameterTypes();
        Object[] values = new Object[types.length];
        for (int i = 0; i < values.length; i++) {
            int most = chance.nextInt(3) < tame ? 3 : NUMBERS.length;
            values[i] = types[i] == boolean.class ? (Object) chance.nextBoolean() : (Object) NUMBERS[chance.nextInt(most)];
        }
        try {
            method.invoke(mill, values);
        } catch (InvocationTargetException e) {
            CHECK.due(method.getName() + Arrays.toString(values) + " threw " + e.getCause(),
                    List.of(method.getExceptionTypes()).contains(e.getCause().getClass()), true);
        }
    }
}
