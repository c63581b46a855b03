import java.lang.reflect.InvocationTargetException;
import java.lang.reflect.Method;
import java.lang.reflect.Modifier;
import java.util.Arrays;
import java.util.Random;

/** Every call with numbers at and far beyond all edges, in many states: none may throw. */
public final class EdgesTest {
    private static final int[] NUMBERS = {Integer.MIN_VALUE, Integer.MIN_VALUE + 1, -1000000, -3, -2, -1, 0, 1, 2, 3, 4,
        5, 6, 7, 8, 9, 10, 30, 31, 32, 33, 40, 41, 60, 61, 99, 100, 127, 128, 149, 150, 151, 191, 192, 200, 201,
        999999, 1000000, Integer.MAX_VALUE - 1, Integer.MAX_VALUE};
    private static final Check check = new Check();

    public static void main(String[] args) throws IllegalAccessException {
        for (int state = 0; state < 40; state++) {
            ThrownOver x = new ThrownOver();
            prepare(x, state);
            for (Method method : ThrownOver.class.getDeclaredMethods()) {
                if (Modifier.isPublic(method.getModifiers())) {
                    sweep(x, method);
                }
            }
        }
        check.end();
    }

    private static void prepare(ThrownOver x, int state) {
        Random random = new Random(state);
        x.ship(random.nextInt(100), random.nextInt(201));
        for (int k = 0; k < state % 9; k++) {
            x.goods(random.nextInt(6), random.nextInt(4), state < 20 ? random.nextInt(3) : 0,
                1 + random.nextInt(40), random.nextInt(61), random.nextInt(61));
        }
        for (int i = 0; i < state % 5; i++) {
            x.over(random.nextInt(8));
            x.seen(1 + random.nextInt(40), random.nextInt(61), random.nextInt(4));
        }
    }

    private static void sweep(ThrownOver x, Method method) throws IllegalAccessException {
        int n = method.getParameterCount();
        Integer[] a = new Integer[n];
        Random random = new Random(n);
        int times = n == 0 ? 1 : n == 1 ? NUMBERS.length : 1000;
        for (int i = 0; i < times; i++) {
            for (int j = 0; j < n; j++) {
                a[j] = NUMBERS[n == 1 ? i : random.nextInt(NUMBERS.length)];
            }
            try {
                method.invoke(x, (Object[]) a);
            } catch (InvocationTargetException e) {
                check.say(method.getName() + Arrays.toString(a) + " threw " + e.getCause());
            }
        }
    }
}
