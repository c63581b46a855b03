import java.io.IOException;
import java.nio.file.Files;
import java.nio.file.Path;
import java.util.Set;
import java.util.TreeSet;

/** The class keeps to LANGUAGE.md, as far as its tree (LanguageRules) and a count of what calls make can tell. */
public final class LanguageTest {
    private static final int MOST_WIDE = 120;
    private static final Check check = new Check();

    public static void main(String[] args) throws IOException {
        String root = System.getenv("THROWN_OVER_ROOT");
        Path file = Path.of(root == null ? "." : root, "src", "main", "java", "ThrownOver.java");
        String source = Files.readString(file);
        signs(source);
        check.due("what of LANGUAGE.md is broken", LanguageRules.broken(source), Set.of());
        rulesAreSeen();
        callsMakeNothing();
        check.end();
    }

    private static void signs(String source) {
        for (char c : source.toCharArray()) {
            if (c > 126 || c < 32 && c != '\n') {
                check.say("rule 3: sign " + (int) c);
            }
        }
        for (String line : source.split("\n")) {
            check.due("too wide: " + line, line.length() > MOST_WIDE, false);
        }
    }

    /** Members that break a rule each: were LanguageRules blind to it, no finding for the class would mean nothing. */
    private static void rulesAreSeen() {
        seen(0, "private int f(int x) { for (int i = 0; i < 3; i++) { x += i; } return x / 2; }");
        seen(0, "private static final int[] ROW = {1, 2}; private int f(int i) { return i == 1 ? ROW[i] : 0; }");
        seen(1, "int f(int x) { return x; }");
        seen(1, "public int f() { return 1; } private int f(int x) { return x; }");
        seen(2, "private class Inner { }");
        seen(2, "public static class Open { }");
        seen(2, "private void f() { class Local { } }");
        seen(2, "private interface One { int g(); } private int f() { One one = () -> 1; return one.g(); }");
        seen(3, "private Object f;");
        seen(3, "private String[][] f;");
        seen(3, "private java.util.Map<String, String> f;");
        seen(4, "private void f() { System.out.println(); }");
        seen(4, "private int f(int x) { return Math.addExact(x, 1); }");
        seen(4, "private long f() { return System.nanoTime(); }");
        seen(5, "private static int f;");
        seen(5, "private static final int[] F = new int[3];");
        seen(5, "private static final int F; static { F = 3; }");
        seen(5, "private static final int[] F = {1}; private void f() { F[0] = 2; }");
        seen(5, "private void f(int[] row) { if (row.length > 0) { row[0]++; } }");
        seen(6, "private void f() { throw new IllegalStateException(); }");
        seen(6, "private void f() { try { g(); } finally { g(); } } private void g() { }");
        seen(6, "private boolean f(String a, String b) { return a == b; }");
        seen(6, "private static class A { } private static class B extends A { } private B f(A a) { return (B) a; }");
        seen(6, "public String toString() { return \"\"; }");
        seen(7, "private int f(int x, int y) { return x / y; }");
        seen(7, "private int f(int x, int y) { x %= y; return x; }");
        seen(8, "private int f(int x) { return x > 0 ? f(x - 1) : 0; }");
        seen(9, "private void f() { while (true) { } }");
        seen(9, "private void f(int x) { while (x < 3 || x != 8) { x++; } }");
        seen(10, "private String f(String x) { return x + 1; }");
        seen(11, "private void f(int a, int b, int c, int d, int e, int f, int g, int h) { }");
        seen(11, "private void f() {" + "\n".repeat(60) + "}");
        seen(11, "private int a, b, c, d, e, f, g, h, i, j, k, l, m, n, o, p, q, r, s, t, u;");
        seen(11, classes(12));
        seen(0, classes(11));
        seen(11, chain(9));
        seen(0, chain(8));
        seen(12, "private int[] f() { return new int[2]; }");
        seen(12, "private ThrownOver() { f(); } private void f() { }");
    }

    private static String classes(int n) {
        StringBuilder all = new StringBuilder();
        for (int i = 0; i < n; i++) {
            all.append("private static class C").append(i).append(" { } ");
        }
        return all.toString();
    }

    /** So many methods, each of which calls the next. */
    private static String chain(int n) {
        StringBuilder all = new StringBuilder();
        for (int i = 1; i < n; i++) {
            all.append("private void f").append(i).append("() { f").append(i + 1).append("(); } ");
        }
        return all.append("private void f").append(n).append("() { }").toString();
    }

    /** 0: the members break no rule. */
    private static void seen(int rule, String members) {
        Set<String> numbers = new TreeSet<>();
        for (String finding : LanguageRules.broken("public final class ThrownOver { " + members + " }")) {
            numbers.add(finding.substring(0, finding.indexOf(':')));
        }
        if (rule == 0) {
            check.due("rules broken by: " + members, numbers, Set.of());
        } else {
            check.due("rule " + rule + " is seen in: " + members, numbers.contains("rule " + rule), true);
        }
    }

    /** Rows are made in the constructor and used again: behind it no call makes any object. */
    private static void callsMakeNothing() {
        com.sun.management.ThreadMXBean bean =
            (com.sun.management.ThreadMXBean) java.lang.management.ManagementFactory.getThreadMXBean();
        ThrownOver x = new ThrownOver();
        everyCall(x);
        long nothing = Long.MAX_VALUE;
        long calls = Long.MAX_VALUE;
        for (int i = 0; i < 20; i++) {
            long a = bean.getCurrentThreadAllocatedBytes();
            long b = bean.getCurrentThreadAllocatedBytes();
            everyCall(x);
            long c = bean.getCurrentThreadAllocatedBytes();
            nothing = Math.min(nothing, b - a);
            calls = Math.min(calls, c - b);
        }
        check.due("rule 12: bytes that calls make", calls - nothing, 0);
    }

    private static void everyCall(ThrownOver x) {
        x.clear();
        Check.type(x, "ship 50 60;goods 0 0 0 20 10 10;goods 5 1 0 20 10 10;goods 3 2 1 30 10 10;over 1;");
        x.read();
        x.goods(4, 3, 2, 9, 9, 9);
        x.tells(0, 3);
        x.over(3);
        x.undo();
        x.over(3);
        x.seen(1, 60, 3);
        for (int i = 0; i < 8; i++) {
            x.of(0, i);
            x.now(i);
            x.share(i);
            x.net(i);
            x.part(i);
            x.status(i);
            x.count(i);
            x.image(i);
            x.from(i);
            x.least(20, i - 2);
        }
        x.lives(3);
        x.needful(10);
        x.stow(0, 20);
        x.tell(0);
        x.marked(0, 40);
        x.barrel();
        x.whose();
        x.asks();
        x.odds(5);
        x.safe();
        x.voyages(7, 30);
        x.digest();
        x.forget();
        x.ship(1, 1);
    }
}
