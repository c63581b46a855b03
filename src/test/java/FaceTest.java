import java.lang.reflect.Constructor;
import java.lang.reflect.Field;
import java.lang.reflect.Method;
import java.lang.reflect.Modifier;
import java.util.Set;
import java.util.StringJoiner;
import java.util.TreeSet;
import java.util.regex.Matcher;
import java.util.regex.Pattern;

/** The public face is the document's, to the letter, and nothing of the class is seen beside it. */
public final class FaceTest {
    private static final Pattern METHOD = Pattern.compile("public (\\w+) (\\w+)\\(([^)]*)\\);");
    private static final Check check = new Check();

    public static void main(String[] args) throws IllegalAccessException {
        check.due("the class's modifiers", Modifier.toString(ThrownOver.class.getModifiers()), "public final");
        methods();
        constants();
        constructors();
        for (Class<?> inside : ThrownOver.class.getDeclaredClasses()) {
            int m = inside.getModifiers();
            check.due(inside + " is static", Modifier.isStatic(m), true);
            check.due(inside + " is hidden", Modifier.isPublic(m) || Modifier.isProtected(m), false);
        }
        check.end();
    }

    /** The methods of the document's own listing: one for each promise from 2 to 33. */
    private static Set<String> told() {
        Set<String> all = new TreeSet<>();
        Matcher method = METHOD.matcher(Check.DOCUMENT);
        while (method.find()) {
            String types = method.group(3).replaceAll("(\\w+) \\w+", "$1");
            all.add(method.group(1) + " " + method.group(2) + "(" + types + ")");
        }
        check.due("methods that the document lists", all.size(), 32);
        return all;
    }

    private static void methods() {
        Set<String> seen = new TreeSet<>();
        Set<String> names = new TreeSet<>();
        for (Method method : ThrownOver.class.getDeclaredMethods()) {
            if (Modifier.isPrivate(method.getModifiers())) {
                continue;
            }
            StringJoiner types = new StringJoiner(", ");
            for (Class<?> type : method.getParameterTypes()) {
                types.add(type.toString());
            }
            seen.add(method.getReturnType() + " " + method.getName() + "(" + types + ")");
            names.add(method.getName());
            check.due(method + " modifiers", Modifier.toString(method.getModifiers()), "public");
        }
        check.due("the methods", seen, told());
        for (Method method : ThrownOver.class.getDeclaredMethods()) {
            if (Modifier.isPrivate(method.getModifiers()) && names.contains(method.getName())) {
                check.say("private " + method.getName() + " bears the name of a public one");
            }
        }
    }

    private static void constants() throws IllegalAccessException {
        Set<String> seen = new TreeSet<>();
        for (Field field : ThrownOver.class.getDeclaredFields()) {
            int m = field.getModifiers();
            if (Modifier.isPublic(m)) {
                seen.add(Modifier.toString(m) + " " + field.getType() + " " + field.getName() + " " + field.get(null));
            } else {
                check.due(field + " is private", Modifier.isPrivate(m), true);
            }
        }
        check.due("the constants", seen, new TreeSet<>(Set.of("public static final int NONE -1",
            "public static final int BAD -2", "public static final int NO -3", "public static final int FULL -4")));
    }

    private static void constructors() {
        Constructor<?>[] all = ThrownOver.class.getDeclaredConstructors();
        check.due("constructors", all.length, 1);
        check.due("the constructor's parameters", all[0].getParameterCount(), 0);
        check.due("the constructor is public", Modifier.isPublic(all[0].getModifiers()), true);
    }
}
