import java.lang.reflect.InvocationTargetException;
import java.lang.reflect.Method;
import java.lang.reflect.Modifier;
import java.util.Arrays;
import java.util.Comparator;
import java.util.NoSuchElementException;
import java.util.Random;

/** Any call with any arguments in any state: nothing is thrown, but by led what the document tells. */
final class NeverThrowsTest {
    private static final Check CHECK = new Check();
    private static final int[] EDGES = {Integer.MIN_VALUE, Integer.MIN_VALUE + 1, -65537, -33, -32, -2, -1, 0, 1, 2, 3, 4, 5, 6,
        7, 8, 9, 10, 11, 16, 23, 24, 25, 31, 32, 33, 63, 64, 99, 100, 255, 256, 900, 901, 1023, 1024, 65535, 65536, 65537,
        Integer.MAX_VALUE - 1, Integer.MAX_VALUE};

    public static void main(String[] args) throws IllegalAccessException {
        Method[] methods = Arrays.stream(RhymeFerry.class.getDeclaredMethods())
            .filter(method -> Modifier.isPublic(method.getModifiers()))
            .sorted(Comparator.comparing(Method::getName)).toArray(Method[]::new);
        Random random = new Random(46);
        for (int run = 0; run < 300; run++) {
            RhymeFerry x = new RhymeFerry();
            if (run % 3 > 0) {
                Check.tell(x, Check.FIVE);
            }
            for (int call = 0; call < 480; call++) {
                call(x, methods[random.nextInt(methods.length)], random);
            }
        }
        CHECK.end();
    }

    private static void call(RhymeFerry x, Method method, Random random) throws IllegalAccessException {
        if (method.getName().equals("ferry") && random.nextInt(5) > 0) {
            return;
        }
        Class<?>[] kinds = method.getParameterTypes();
        Object[] values = new Object[kinds.length];
        for (int i = 0; i < values.length; i++) {
            int number = random.nextInt(3) == 0 ? EDGES[random.nextInt(EDGES.length)] : random.nextInt(6);
            values[i] = kinds[i] == boolean.class ? (Object) random.nextBoolean() : (Object) number;
        }
        Throwable thrown = null;
        try {
            method.invoke(x, values);
        } catch (InvocationTargetException e) {
            thrown = e.getCause();
        }
        boolean fine = thrown == null || method.getName().equals("led") && thrown instanceof NoSuchElementException;
        CHECK.due(method.getName() + Arrays.toString(values) + " threw " + thrown, fine, true);
    }
}
