import java.util.ArrayList;
import java.util.List;
import java.util.Random;

/** Runs of calls by fixed seeds: each answer, and the digest behind it, as Model has them. */
public final class ModelTest {
    private static final int RUNS = 3000;
    private static final int CALLS = 150;
    /** With the digest at a run's end, as many as an object is used for. */
    private static final int MOST_CALLS = 511;
    private static final int MOST_GOODS = 8;
    private static final Check check = new Check();

    public static void main(String[] args) {
        List<Call> bag = new ArrayList<>();
        for (Call call : Call.ALL) {
            for (int i = 0; i < call.often(); i++) {
                bag.add(call);
            }
        }
        for (int run = 0; run < RUNS; run++) {
            oneRun(run, bag);
        }
        for (int run = 0; run < RUNS; run++) {
            oneText(run);
        }
        check.end();
    }

    private static void oneRun(int run, List<Call> bag) {
        Random random = new Random(run);
        ThrownOver x = new ThrownOver();
        Model model = new Model();
        // Some runs have few different numbers, so that like ones are often met.
        int spread = run % 3 == 0 ? 4 : Integer.MAX_VALUE;
        int calls = run % 10 == 0 ? MOST_CALLS : CALLS;
        for (int i = 0; i < calls; i++) {
            Call call = bag.get(random.nextInt(bag.size()));
            int[] a = new int[call.arguments()];
            for (int j = 0; j < a.length; j++) {
                int most = call.most(j, MOST_GOODS);
                a[j] = argument(random, call.least(j), most == Call.NO_MOST ? MOST_GOODS : most, spread);
            }
            check.due("run " + run + ", call " + i + ": " + call.told(a), call.on(x, a), call.on(model, a));
        }
        check.due("run " + run + ": digest()", x.digest(), model.digest());
    }

    private static int argument(Random random, int least, int most, int spread) {
        int kind = random.nextInt(60);
        if (kind == 0) {
            return least - 1;
        }
        if (kind == 1) {
            return most + 1;
        }
        if (kind == 2) {
            return random.nextInt();
        }
        return least + random.nextInt(Math.min(most - least + 1, kind < 50 ? spread : Integer.MAX_VALUE));
    }

    /** Texts that are nearly right, so that faults of each kind and good ones come. */
    private static void oneText(int run) {
        Random random = new Random(run);
        ThrownOver x = new ThrownOver();
        Model model = new Model();
        for (int i = 0; i < 3; i++) {
            String text = text(random);
            x.clear();
            model.clear();
            for (char c : text.toCharArray()) {
                check.due("type " + (int) c, x.type(c), model.type(c));
            }
            check.due("read of '" + text + "'", x.read(), model.read());
            check.due("digest behind '" + text + "'", x.digest(), model.digest());
            check.due("undo behind '" + text + "'", x.undo(), model.undo());
        }
    }

    private static String text(Random random) {
        StringBuilder text = new StringBuilder();
        text.append(blanks(random)).append("ship ").append(random.nextInt(100)).append(' ').append(random.nextInt(201));
        text.append(blanks(random)).append(';');
        int goods = 0;
        for (int i = 0; i < 9 && random.nextInt(9) != 0; i++) {
            if (goods > 0 && random.nextInt(3) == 0) {
                text.append("over ").append(goods - 1 - random.nextInt(2) * random.nextInt(2));
            } else {
                text.append("goods").append(blanks(random)).append(random.nextInt(6)).append(' ')
                    .append(random.nextInt(4)).append(' ').append(random.nextInt(3)).append(' ')
                    .append(1 + random.nextInt(9)).append(' ').append(random.nextInt(10)).append(' ')
                    .append(random.nextInt(61));
                goods++;
            }
            text.append(blanks(random)).append(';').append(blanks(random));
        }
        for (int i = random.nextInt(3) - 1; i > 0; i--) {
            mangle(random, text);
        }
        if (random.nextInt(8) == 0) {
            text.setLength(random.nextInt(text.length() + 1));
        }
        return text.toString();
    }

    private static String blanks(Random random) {
        return " ".repeat(random.nextInt(5) == 0 ? 1 + random.nextInt(2) : 0);
    }

    private static void mangle(Random random, StringBuilder text) {
        String signs = "0123456789;; shipgodver-A\t{`/:";
        int at = random.nextInt(text.length() + 1);
        switch (random.nextInt(3)) {
            case 0:
                text.insert(at, signs.charAt(random.nextInt(signs.length())));
                break;
            case 1:
                text.insert(at, random.nextBoolean() ? "ship 1 2;" : "over 0;");
                break;
            default:
                if (at < text.length()) {
                    text.deleteCharAt(at);
                }
                break;
        }
    }
}
