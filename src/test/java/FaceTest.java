import java.lang.reflect.Constructor;
import java.lang.reflect.Field;
import java.lang.reflect.Method;
import java.lang.reflect.Modifier;
import java.util.Set;
import java.util.TreeSet;

/** The public face is the document's, to the letter, and nothing of the class is seen beside it. */
public final class FaceTest {
    private static final String[] METHODS = {
        "int ship(2)", "int goods(6)", "int tells(2)", "int type(1)", "int clear(0)", "int read(0)", "int over(1)",
        "int undo(0)", "int of(2)", "int lives(1)", "int now(1)", "int share(1)", "int net(1)", "int least(2)",
        "int needful(1)", "int stow(2)", "int tell(1)", "int marked(2)", "int seen(3)", "int forget(0)",
        "int barrel(0)", "int whose(0)", "int asks(0)", "int odds(1)", "int safe(0)", "int voyages(2)",
        "long part(1)", "int image(1)", "int from(1)", "int status(1)", "int count(1)", "long digest(0)"};
    private static final Check check = new Check();

    public static void main(String[] args) throws IllegalAccessException {
        check.due("the class's modifiers", Modifier.toString(ThrownOver.class.getModifiers()), "public final");
        methods();
        constants();
        constructors();
        for (Class<?> inside : ThrownOver.class.getDeclaredClasses()) {
            int m = inside.getModifiers();
            check.due(inside + " is static", Modifier.isStatic(m), true);
            check.due(inside + " is hidden", Modifier.isPublic(m) || Modifier.isProtected(m), false);
        }
        check.end();
    }

    private static void methods() {
        Set<String> seen = new TreeSet<>();
        Set<String> names = new TreeSet<>();
        for (Method method : ThrownOver.class.getDeclaredMethods()) {
            if (Modifier.isPrivate(method.getModifiers())) {
                continue;
            }
            seen.add(method.getReturnType() + " " + method.getName() + "(" + method.getParameterCount() + ")");
            names.add(method.getName());
            check.due(method + " modifiers", Modifier.toString(method.getModifiers()), "public");
            for (Class<?> type : method.getParameterTypes()) {
                check.due(method + " parameter", type, int.class);
            }
        }
        check.due("the methods", seen, new TreeSet<>(Set.of(METHODS)));
        for (Method method : ThrownOver.class.getDeclaredMethods()) {
            if (Modifier.isPrivate(method.getModifiers()) && names.contains(method.getName())) {
                check.say("private " + method.getName() + " bears the name of a public one");
            }
        }
    }

    private static void constants() throws IllegalAccessException {
        Set<String> seen = new TreeSet<>();
        for (Field field : ThrownOver.class.getDeclaredFields()) {
            int m = field.getModifiers();
            if (Modifier.isPublic(m)) {
                seen.add(Modifier.toString(m) + " " + field.getType() + " " + field.getName() + " " + field.get(null));
            } else {
                check.due(field + " is private", Modifier.isPrivate(m), true);
            }
        }
        check.due("the constants", seen, new TreeSet<>(Set.of("public static final int NONE -1",
            "public static final int BAD -2", "public static final int NO -3", "public static final int FULL -4")));
    }

    private static void constructors() {
        Constructor<?>[] all = ThrownOver.class.getDeclaredConstructors();
        check.due("constructors", all.length, 1);
        check.due("the constructor's parameters", all[0].getParameterCount(), 0);
        check.due("the constructor is public", Modifier.isPublic(all[0].getModifiers()), true);
    }
}
