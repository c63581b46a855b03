import java.lang.reflect.Method;
import java.util.Arrays;
import java.util.Set;

/**
 * A call of the document's face: how often runs by seeds make it and, for each argument,
 * the least and the most that is as told.
 */
record Call(String name, int often, int... limits) {
    /** Stands for the most of an argument for which the document tells none. */
    static final int NO_MOST = Integer.MAX_VALUE;

    private static final Set<String> OF_GOODS = Set.of("tells", "over", "of", "stow", "tell", "marked");

    static final Call[] ALL = {
        new Call("ship", 1, 0, 99, 0, 200), new Call("goods", 24, 0, 5, 0, 3, 0, 2, 1, 40, 0, 60, 0, 60),
        new Call("tells", 3, 0, 7, 0, 60), new Call("type", 1, 0, 127), new Call("clear", 1), new Call("read", 1),
        new Call("over", 12, 0, 7), new Call("undo", 4), new Call("of", 4, 0, 7, 0, 7), new Call("lives", 3, 0, 200),
        new Call("now", 4, 0, 3), new Call("share", 4, 0, 4), new Call("net", 4, 0, 3),
        new Call("least", 10, 0, 200, -2, NO_MOST), new Call("needful", 3, 0, 200),
        new Call("stow", 8, 0, 7, 0, 200), new Call("tell", 4, 0, 7), new Call("marked", 3, 0, 7, 0, 60),
        new Call("seen", 3, 1, 40, 0, 60, 0, 3), new Call("forget", 2), new Call("barrel", 3), new Call("whose", 3),
        new Call("asks", 4), new Call("odds", 3, 0, 191), new Call("safe", 2),
        new Call("voyages", 4, 0, 999999, 0, 30), new Call("part", 6, 0, 1), new Call("image", 2, 0, 1),
        new Call("from", 2, 0, 1), new Call("status", 3, 0, 2), new Call("count", 3, 0, 6), new Call("digest", 1),
    };

    static Call named(String name) {
        for (Call call : ALL) {
            if (call.name.equals(name)) {
                return call;
            }
        }
        throw new IllegalArgumentException(name);
    }

    int arguments() {
        return limits.length / 2;
    }

    int least(int j) {
        return limits[2 * j];
    }

    /** The most that argument j may be, where there are so many goods; below the least if there is none. */
    int most(int j, int goods) {
        return j == 0 && OF_GOODS.contains(name) ? goods - 1 : limits[2 * j + 1];
    }

    /** What a number that is not as told is answered with. */
    int badAnswer() {
        return name.equals("least") ? -10 : name.equals("status") ? -1 : ThrownOver.BAD;
    }

    long on(Object x, int... a) {
        Class<?>[] types = new Class<?>[a.length];
        Object[] arguments = new Object[a.length];
        for (int j = 0; j < a.length; j++) {
            types[j] = int.class;
            arguments[j] = a[j];
        }
        try {
            Method method = x.getClass().getDeclaredMethod(name, types);
            return ((Number) method.invoke(x, arguments)).longValue();
        } catch (ReflectiveOperationException e) {
            throw new IllegalStateException(told(a), e);
        }
    }

    String told(int... a) {
        return name + Arrays.toString(a).replace('[', '(').replace(']', ')');
    }
}
