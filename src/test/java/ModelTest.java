import java.lang.reflect.Method;
import java.util.ArrayList;
import java.util.Arrays;
import java.util.List;
import java.util.Random;

/** Runs of calls by fixed seeds: each answer, and the digest behind it, as Model has them. */
public final class ModelTest {
    private static final int RUNS = 3000;
    private static final int CALLS = 150;
    private static final Check check = new Check();

    /** A call and, for each argument, the least and the most that is as told. */
    private record Call(String name, int often, int... limits) { }

    private static final Call[] CALLS_TO_MAKE = {
        new Call("ship", 1, 0, 99, 0, 200), new Call("goods", 24, 0, 5, 0, 3, 0, 2, 1, 40, 0, 60, 0, 60),
        new Call("tells", 3, 0, 7, 0, 60), new Call("type", 1, 0, 127), new Call("clear", 1), new Call("read", 1),
        new Call("over", 12, 0, 7), new Call("undo", 4), new Call("of", 4, 0, 7, 0, 7), new Call("lives", 3, 0, 200),
        new Call("now", 4, 0, 3), new Call("share", 4, 0, 4), new Call("net", 4, 0, 3),
        new Call("least", 10, 0, 200, -2, 8), new Call("needful", 3, 0, 200), new Call("stow", 8, 0, 7, 0, 200),
        new Call("tell", 4, 0, 7), new Call("marked", 3, 0, 7, 0, 60), new Call("seen", 3, 1, 40, 0, 60, 0, 3),
        new Call("forget", 2), new Call("barrel", 3), new Call("whose", 3), new Call("asks", 4),
        new Call("odds", 3, 0, 191), new Call("safe", 2), new Call("voyages", 4, 0, 999999, 0, 30),
        new Call("part", 6, 0, 1), new Call("image", 2, 0, 1), new Call("from", 2, 0, 1),
        new Call("status", 3, 0, 2), new Call("count", 3, 0, 6), new Call("digest", 1),
    };

    public static void main(String[] args) throws ReflectiveOperationException {
        List<Call> bag = new ArrayList<>();
        for (Call call : CALLS_TO_MAKE) {
            for (int i = 0; i < call.often(); i++) {
                bag.add(call);
            }
        }
        for (int run = 0; run < RUNS; run++) {
            oneRun(run, bag);
        }
        for (int run = 0; run < RUNS; run++) {
            oneText(run);
        }
        check.end();
    }

    private static void oneRun(int run, List<Call> bag) throws ReflectiveOperationException {
        Random random = new Random(run);
        ThrownOver x = new ThrownOver();
        Model model = new Model();
        // Some runs have few different numbers, so that like ones are often met.
        int spread = run % 3 == 0 ? 4 : Integer.MAX_VALUE;
        for (int i = 0; i < CALLS; i++) {
            Call call = bag.get(random.nextInt(bag.size()));
            int[] a = new int[call.limits().length / 2];
            for (int j = 0; j < a.length; j++) {
                a[j] = argument(random, call.limits()[2 * j], call.limits()[2 * j + 1], spread);
            }
            compare(run, i, x, model, call.name(), a);
        }
        check.due("run " + run + ": digest()", x.digest(), model.digest());
    }

    private static int argument(Random random, int least, int most, int spread) {
        int kind = random.nextInt(60);
        if (kind == 0) {
            return least - 1;
        }
        if (kind == 1) {
            return most + 1;
        }
        if (kind == 2) {
            return random.nextInt();
        }
        return least + random.nextInt(Math.min(most - least + 1, kind < 50 ? spread : Integer.MAX_VALUE));
    }

    private static void compare(int run, int i, ThrownOver x, Model model, String name, int... a)
            throws ReflectiveOperationException {
        long got = call(x, name, a);
        long want = call(model, name, a);
        check.due("run " + run + ", call " + i + ": " + name + Arrays.toString(a), got, want);
    }

    private static long call(Object on, String name, int[] a) throws ReflectiveOperationException {
        Class<?>[] types = new Class<?>[a.length];
        Object[] arguments = new Object[a.length];
        for (int j = 0; j < a.length; j++) {
            types[j] = int.class;
            arguments[j] = a[j];
        }
        Method method = on.getClass().getDeclaredMethod(name, types);
        return ((Number) method.invoke(on, arguments)).longValue();
    }

    /** Texts that are nearly right, so that faults of each kind and good ones come. */
    private static void oneText(int run) {
        Random random = new Random(run);
        ThrownOver x = new ThrownOver();
        Model model = new Model();
        for (int i = 0; i < 3; i++) {
            String text = text(random);
            x.clear();
            model.clear();
            for (char c : text.toCharArray()) {
                check.due("type " + (int) c, x.type(c), model.type(c));
            }
            check.due("read of '" + text + "'", x.read(), model.read());
            check.due("digest behind '" + text + "'", x.digest(), model.digest());
            check.due("undo behind '" + text + "'", x.undo(), model.undo());
        }
    }

    private static String text(Random random) {
        StringBuilder text = new StringBuilder();
        text.append(blanks(random)).append("ship ").append(random.nextInt(100)).append(' ').append(random.nextInt(201));
        text.append(blanks(random)).append(';');
        int goods = 0;
        for (int i = 0; i < 9 && random.nextInt(9) != 0; i++) {
            if (goods > 0 && random.nextInt(3) == 0) {
                text.append("over ").append(goods - 1 - random.nextInt(2) * random.nextInt(2));
            } else {
                text.append("goods").append(blanks(random)).append(random.nextInt(6)).append(' ')
                    .append(random.nextInt(4)).append(' ').append(random.nextInt(3)).append(' ')
                    .append(1 + random.nextInt(9)).append(' ').append(random.nextInt(10)).append(' ')
                    .append(random.nextInt(61));
                goods++;
            }
            text.append(blanks(random)).append(';').append(blanks(random));
        }
        for (int i = random.nextInt(3) - 1; i > 0; i--) {
            mangle(random, text);
        }
        if (random.nextInt(8) == 0) {
            text.setLength(random.nextInt(text.length() + 1));
        }
        return text.toString();
    }

    private static String blanks(Random random) {
        return " ".repeat(random.nextInt(5) == 0 ? 1 + random.nextInt(2) : 0);
    }

    private static void mangle(Random random, StringBuilder text) {
        String signs = "0123456789;; shipgodver-A\t{`/:";
        int at = random.nextInt(text.length() + 1);
        switch (random.nextInt(3)) {
            case 0:
                text.insert(at, signs.charAt(random.nextInt(signs.length())));
                break;
            case 1:
                text.insert(at, random.nextBoolean() ? "ship 1 2;" : "over 0;");
                break;
            default:
                if (at < text.length()) {
                    text.deleteCharAt(at);
                }
                break;
        }
    }
}
