import java.util.Arrays;
import java.util.List;

/**
 * Every number of every call at, below and above its limits, in every state: what is refused, by which
 * reason, and that a refused call changes nothing but STATUS. Each call is made on one of two objects
 * with the same calls behind them; the other shows what there was.
 */
public final class RefusalsTest {
    private static final int BAD = 0, NO = 1, FULL = 2, NOT_REFUSED = -1;
    private static final Check check = new Check();

    public static void main(String[] args) {
        eachNumberBeyondItsLimits();
        eachNumberAtItsLimits();
        allNumbersWrongCountOnce();
        refusedAsNo();
        refusedAsFull();
        badAheadOfNo();
        badAheadOfFull();
        noneAndNotSoManyAreNoRefusals();
        faultsAreNoRefusals();
        callsThatChangeNothing();
        callsThatChangeTheFractionAlone();
        as512CallsGo();
        check.end();
    }

    private static void eachNumberBeyondItsLimits() {
        check.sentence("Refused, changing nothing but STATUS, the first of: BAD -2 a number is not as told");
        for (State state : State.values()) {
            int goods = state.goods();
            for (Call call : Call.ALL) {
                for (int j = 0; j < call.arguments(); j++) {
                    for (int wrong : beyond(call, j, goods)) {
                        for (boolean most : new boolean[] {false, true}) {
                            int[] a = atLimits(call, goods, most ? -1 : 0);
                            a[j] = wrong;
                            refused(state, call, call.badAnswer(), BAD, a);
                        }
                    }
                }
            }
        }
    }

    private static int[] beyond(Call call, int j, int goods) {
        int most = call.most(j, goods);
        int below = call.least(j) - 1;
        if (most == Call.NO_MOST) {
            return new int[] {Integer.MIN_VALUE, Integer.MIN_VALUE + 1, below};
        }
        return new int[] {Integer.MIN_VALUE, Integer.MIN_VALUE + 1, below, most + 1, Integer.MAX_VALUE - 1,
            Integer.MAX_VALUE};
    }

    /** Each number at its most where its bit is set, else at its least. */
    private static int[] atLimits(Call call, int goods, int bits) {
        int[] a = new int[call.arguments()];
        for (int j = 0; j < a.length; j++) {
            a[j] = (bits >> j & 1) == 1 ? Math.max(call.least(j), call.most(j, goods)) : call.least(j);
        }
        return a;
    }

    private static void eachNumberAtItsLimits() {
        check.sentence("BAD -2 a number is not as told");
        for (State state : State.values()) {
            int goods = state.goods();
            for (Call call : Call.ALL) {
                boolean needsGoods = call.arguments() > 0 && call.most(0, goods) < call.least(0);
                for (int bits = 0; bits < 1 << call.arguments() && !needsGoods; bits++) {
                    int[] a = atLimits(call, goods, bits);
                    ThrownOver x = state.made();
                    int before = x.status(BAD);
                    call.on(x, a);
                    check.due(state + ": BAD behind " + call.told(a), x.status(BAD), before);
                }
            }
        }
    }

    private static void allNumbersWrongCountOnce() {
        check.sentence("STATUS: how many calls were refused as BAD, NO, FULL");
        for (State state : State.values()) {
            for (Call call : Call.ALL) {
                for (int wrong : new int[] {Integer.MIN_VALUE, Integer.MAX_VALUE}) {
                    int[] a = new int[call.arguments()];
                    Arrays.fill(a, wrong);
                    if (a.length > 0) {
                        refused(state, call, call.badAnswer(), BAD, a);
                    }
                }
            }
        }
    }

    private static void refusedAsNo() {
        check.sentence("NO -3 as told");
        for (int k = 0; k < 8; k++) {
            refused(State.EMPTIED, Call.named("over"), ThrownOver.NO, NO, k);
            refused(State.EMPTIED, Call.named("stow"), ThrownOver.NO, NO, k, 0);
            refused(State.EMPTIED, Call.named("stow"), ThrownOver.NO, NO, k, 200);
        }
        for (int k = 0; k < 5; k++) {
            refused(State.LADEN, Call.named("over"), ThrownOver.NO, NO, k);
        }
        for (State state : List.of(State.NEW, State.BARE, State.ONE, State.LADEN, State.SETTLED)) {
            refused(state, Call.named("undo"), ThrownOver.NO, NO);
            refused(state, Call.named("from"), ThrownOver.NO, NO, 0);
            refused(state, Call.named("from"), ThrownOver.NO, NO, 1);
        }
    }

    private static void refusedAsFull() {
        check.sentence("FULL -4");
        for (State state : List.of(State.LADEN, State.EMPTIED, State.FULLEST)) {
            refused(state, Call.named("goods"), ThrownOver.FULL, FULL, 0, 0, 0, 1, 0, 0);
            refused(state, Call.named("goods"), ThrownOver.FULL, FULL, 5, 3, 2, 40, 60, 60);
        }
        refused(State.FULLEST, Call.named("seen"), ThrownOver.FULL, FULL, 1, 0, 0);
        refused(State.FULLEST, Call.named("seen"), ThrownOver.FULL, FULL, 40, 60, 3);
        refused(State.FULLEST, Call.named("type"), ThrownOver.FULL, FULL, 0);
        refused(State.FULLEST, Call.named("type"), ThrownOver.FULL, FULL, 127);
    }

    private static void badAheadOfNo() {
        check.sentence("the first of: BAD -2 a number is not as told; NO -3 as told");
        refused(State.EMPTIED, Call.named("stow"), ThrownOver.BAD, BAD, 7, 201);
        refused(State.EMPTIED, Call.named("stow"), ThrownOver.BAD, BAD, 0, -1);
        refused(State.EMPTIED, Call.named("over"), ThrownOver.BAD, BAD, 8);
        refused(State.NEW, Call.named("from"), ThrownOver.BAD, BAD, 2);
        refused(State.NEW, Call.named("from"), ThrownOver.BAD, BAD, -1);
    }

    private static void badAheadOfFull() {
        check.sentence("the first of: BAD -2 a number is not as told; NO -3 as told; FULL -4");
        refused(State.FULLEST, Call.named("goods"), ThrownOver.BAD, BAD, 6, 0, 0, 1, 0, 0);
        refused(State.FULLEST, Call.named("goods"), ThrownOver.BAD, BAD, 0, 0, 0, 1, 0, 61);
        refused(State.FULLEST, Call.named("seen"), ThrownOver.BAD, BAD, 0, 0, 0);
        refused(State.FULLEST, Call.named("seen"), ThrownOver.BAD, BAD, 1, 0, 4);
        refused(State.FULLEST, Call.named("type"), ThrownOver.BAD, BAD, 128);
        refused(State.FULLEST, Call.named("type"), ThrownOver.BAD, BAD, -1);
    }

    private static void noneAndNotSoManyAreNoRefusals() {
        check.sentence("(each answer told so below is such a one)");
        quiet(State.NEW, Call.named("least"), -5, 0, 0);
        quiet(State.NEW, Call.named("least"), -5, 60, Integer.MAX_VALUE);
        quiet(State.NEW, Call.named("least"), ThrownOver.NONE, 61, -2);
        quiet(State.NEW, Call.named("least"), ThrownOver.NONE, 200, -1);
        quiet(State.NEW, Call.named("least"), ThrownOver.NONE, 61, 0);
        quiet(State.NEW, Call.named("asks"), ThrownOver.NONE);
        quiet(State.LADEN, Call.named("safe"), ThrownOver.NONE);
        quiet(State.ONE, Call.named("stow"), ThrownOver.NONE, 0, 60);
    }

    private static void faultsAreNoRefusals() {
        check.sentence("-10 less the FAULT: all stays.");
        String[] texts = {"", " ", "ship 1 2", "ship 1 2;ship 1 2;", "ship 100 2;", "goods", "ship 1 2;goods 0 0 0 0",
            "ship 1 2;over 0;", "ship 1 2;goods 0 0 0 1 0 0;over 1;", "ship 0001 2;", "?"};
        for (State state : State.values()) {
            for (String text : texts) {
                ThrownOver x = state.made();
                ThrownOver y = state.made();
                for (ThrownOver each : new ThrownOver[] {x, y}) {
                    each.clear();
                    Check.type(each, text);
                }
                check.due(state + ": '" + text + "' has a FAULT", x.read() <= -10, true);
                compare(state + ": a FAULT of '" + text + "'", x, y, NOT_REFUSED);
            }
        }
    }

    private static void callsThatChangeNothing() {
        check.sentence("(Nothing is changed by these.)");
        String[] names = {"of", "lives", "now", "least", "needful", "stow", "tell", "barrel", "whose", "asks", "safe",
            "voyages", "part", "status", "count", "digest"};
        for (State state : State.values()) {
            int goods = state.goods();
            ThrownOver x = state.made();
            ThrownOver y = state.made();
            for (String name : names) {
                Call call = Call.named(name);
                boolean thrown = name.equals("stow") && x.count(1) < goods;
                boolean needsGoods = call.arguments() > 0 && call.most(0, goods) < call.least(0);
                for (int bits = 0; bits < 1 << call.arguments() && !thrown && !needsGoods; bits++) {
                    call.on(x, atLimits(call, goods, bits));
                }
            }
            compare(state + ": all calls that only ask", x, y, NOT_REFUSED);
        }
    }

    private static void callsThatChangeTheFractionAlone() {
        check.sentence("THE FRACTION is 0 by 1 at first; lowest terms, below above 0.");
        for (State state : State.values()) {
            ThrownOver x = state.made();
            ThrownOver y = state.made();
            for (int owner = 0; owner < 4; owner++) {
                x.share(owner);
                x.net(owner);
            }
            x.share(4);
            if (x.count(0) > 0) {
                x.marked(0, 60);
            }
            x.odds(58);
            y.odds(58);
            compare(state + ": share, net, marked, odds", x, y, NOT_REFUSED);
        }
    }

    private static void as512CallsGo() {
        check.sentence("An object is used for at most 512 calls after it has been made");
        ThrownOver x = new ThrownOver();
        for (int i = 0; i < 511; i++) {
            x.undo();
        }
        check.due("the 512th call, status(1)", x.status(1), 511);
        ThrownOver y = new ThrownOver();
        for (int i = 0; i < 510; i++) {
            y.status(3);
        }
        check.due("the 511th call, status(0)", y.status(0), 510);
        check.due("the 512th call, digest()", y.digest(), new ThrownOver().digest());
    }

    private static void refused(State state, Call call, int answer, int reason, int... a) {
        ThrownOver x = state.made();
        ThrownOver y = state.made();
        check.due(state + ": " + call.told(a), call.on(x, a), answer);
        compare(state + ": " + call.told(a), x, y, reason);
    }

    private static void quiet(State state, Call call, int answer, int... a) {
        refused(state, call, answer, NOT_REFUSED, a);
    }

    /** STATUS of x is one more by the reason alone; all else is alike. Uses both up. */
    private static void compare(String when, ThrownOver x, ThrownOver y, int reason) {
        for (int what = 0; what < 3; what++) {
            check.due("status(" + what + ") behind " + when, x.status(what), y.status(what) + (what == reason ? 1 : 0));
        }
        check.due("all but STATUS is alike behind " + when, Picture.take(x).equals(Picture.take(y)), true);
    }
}
