import java.io.IOException;
import java.nio.file.Files;
import java.nio.file.Path;
import java.util.Set;
import java.util.TreeSet;
import java.util.regex.Matcher;
import java.util.regex.Pattern;

/** Those rules of LANGUAGE.md that a scan of the source, or a count of what calls make, can see. */
public final class LanguageTest {
    private static final Set<String> NEVER = Set.of("throw", "throws", "try", "catch", "finally", "synchronized",
        "assert", "import", "package", "var", "record", "native", "transient", "volatile", "hashCode", "toString",
        "System.out", "Random", "Thread", "Object", "Exception");
    private static final Set<String> LIBRARY = Set.of("String", "System", "Math", "Integer", "Long");
    private static final int MOST_CLASSES = 12;
    private static final int MOST_LINES = 60;
    private static final int MOST_PARAMETERS = 7;
    private static final Check check = new Check();

    public static void main(String[] args) throws IOException {
        String root = System.getenv("THROWN_OVER_ROOT");
        Path file = Path.of(root == null ? "." : root, "src", "main", "java", "ThrownOver.java");
        String source = Files.readString(file);
        for (char c : source.toCharArray()) {
            if (c > 127) {
                check.say("rule 3: sign " + (int) c);
            }
        }
        String code = withoutComments(source);
        words(code);
        methods(code);
        callsMakeNothing();
        check.end();
    }

    private static String withoutComments(String source) {
        return source.replaceAll("(?s)/\\*.*?\\*/", "").replaceAll("//[^\n]*", "");
    }

    private static void words(String code) {
        Set<String> own = new TreeSet<>();
        Matcher classes = Pattern.compile("\\bclass (\\w+)").matcher(code);
        while (classes.find()) {
            own.add(classes.group(1));
        }
        if (own.size() > MOST_CLASSES) {
            check.say("rule 11: " + own.size() + " classes");
        }
        String bare = code.replaceAll("\"[^\"]*\"", "\"\"");
        Matcher words = Pattern.compile("[A-Za-z_]\\w*").matcher(bare);
        while (words.find()) {
            String word = words.group();
            boolean type = Character.isUpperCase(word.charAt(0)) && !word.equals(word.toUpperCase());
            if (NEVER.contains(word) || word.endsWith("Exact")
                    || type && !own.contains(word) && !LIBRARY.contains(word)) {
                check.say("rule 4 or 6: " + word);
            }
        }
        if (bare.contains("->") || bare.contains("::") || bare.contains("@")) {
            check.say("rule 2: a lambda, a method reference or a note");
        }
    }

    private static void methods(String code) {
        Matcher heads = Pattern.compile("(?m)^( +)(?:[\\w\\[\\]]+ )+(\\w+)\\(([^)]*)\\) \\{\n((?s:.*?))^\\1\\}")
            .matcher(code);
        int found = 0;
        int from = 0;
        while (heads.find(from)) {
            from = heads.end(3);
            String name = heads.group(2);
            if (name.matches("if|for|while|switch")) {
                continue;
            }
            found++;
            int lines = heads.group(4).split("\n").length;
            if (lines > MOST_LINES || heads.group(3).split(",").length > MOST_PARAMETERS) {
                check.say("rule 11: " + name + " has " + lines + " lines, parameters (" + heads.group(3) + ")");
            }
        }
        check.due("methods were found", found > 60, true);
    }

    /** Rows are made in the constructor and used again: behind it no call makes any object. */
    private static void callsMakeNothing() {
        com.sun.management.ThreadMXBean bean =
            (com.sun.management.ThreadMXBean) java.lang.management.ManagementFactory.getThreadMXBean();
        ThrownOver x = new ThrownOver();
        everyCall(x);
        long nothing = Long.MAX_VALUE;
        long calls = Long.MAX_VALUE;
        for (int i = 0; i < 20; i++) {
            long a = bean.getCurrentThreadAllocatedBytes();
            long b = bean.getCurrentThreadAllocatedBytes();
            everyCall(x);
            long c = bean.getCurrentThreadAllocatedBytes();
            nothing = Math.min(nothing, b - a);
            calls = Math.min(calls, c - b);
        }
        check.due("rule 12: bytes that calls make", calls - nothing, 0);
    }

    private static void everyCall(ThrownOver x) {
        x.clear();
        Check.type(x, "ship 50 60;goods 0 0 0 20 10 10;goods 5 1 0 20 10 10;goods 3 2 1 30 10 10;over 1;");
        x.read();
        x.goods(4, 3, 2, 9, 9, 9);
        x.tells(0, 3);
        x.over(3);
        x.undo();
        x.over(3);
        x.seen(1, 60, 3);
        for (int i = 0; i < 8; i++) {
            x.of(0, i);
            x.now(i);
            x.share(i);
            x.net(i);
            x.part(i);
            x.status(i);
            x.count(i);
            x.image(i);
            x.from(i);
            x.least(20, i - 2);
        }
        x.lives(3);
        x.needful(10);
        x.stow(0, 20);
        x.tell(0);
        x.marked(0, 40);
        x.barrel();
        x.whose();
        x.asks();
        x.odds(5);
        x.safe();
        x.voyages(7, 30);
        x.digest();
        x.forget();
        x.ship(1, 1);
    }
}
