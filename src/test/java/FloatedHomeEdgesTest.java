import java.math.BigInteger;

/** Promises 20 to 27, and the terms that they need: each sentence that names a limit, in a method of its own. */
public final class FloatedHomeEdgesTest {
    private static final int BAD = ThrownOver.BAD, FULL = ThrownOver.FULL, NONE = ThrownOver.NONE;
    private static final int MIN = Integer.MIN_VALUE, MAX = Integer.MAX_VALUE;
    private static final Check check = new Check();

    public static void main(String[] args) {
        seenComeAs0To5();
        seenNumbers();
        seenHeavyOrMore();
        seenWorthOrLess();
        seenOfHold();
        promise20Full();
        promise20AgainBehindForget();
        promise21HowManyThereWere();
        promise21LeavesAllElse();
        barrelOfNone();
        barrelByNoSeen();
        barrelThatAllFit();
        whoseAll();
        whoseNone();
        askEachQuestion();
        askOfLikeOnesTheFirst();
        askOfOne();
        askNone();
        oddsEachOfTen();
        oddsLimits();
        promise25Bad();
        safeAtItsLimits();
        safeAsSheIs();
        voyagesStorms();
        voyagesOfNone();
        voyagesLost();
        voyagesThrowWhatIsOnBoardThen();
        voyagesLimits();
        promise27Bad();
        check.end();
    }

    /** Goods of which all numbers but those told are alike, thrown. */
    private static ThrownOver thrown(int hold, int heavy, int worth) {
        ThrownOver x = new ThrownOver();
        x.goods(0, 0, hold, heavy, worth, 0);
        x.over(0);
        return x;
    }

    private static void seenComeAs0To5() {
        check.sentence("SEEN 0 .. 5, as they come");
        ThrownOver x = new ThrownOver();
        long[] due = {0, 0, 20, 60, 0, 0, 0};
        for (int i = 0; i < 6; i++) {
            check.due("seen", x.seen(40 - i, 10 * i, i % 4), i + 1);
            check.due("count(4)", x.count(4), i + 1);
        }
        due[4] = 6;
        long h = 1117;
        for (long v : due) {
            h = 31 * h + v;
        }
        for (int i = 0; i < 6; i++) {
            h = 31 * (31 * (31 * h + 40 - i) + 10 * i) + i % 4;
        }
        check.due("in this order", x.digest(), 31 * (31 * h) + 1);
    }

    private static void seenNumbers() {
        check.sentence("a barrel floated home that is HEAVY h or more (1 .. 40), WORTH w or less (0 .. 60) (true),"
            + " of HOLD d (0 .. 2; 3: any)");
        ThrownOver x = new ThrownOver();
        int[][] wrong = {{0, 0, 0}, {41, 0, 0}, {MIN, 0, 0}, {MAX, 0, 0}, {1, -1, 0}, {1, 61, 0}, {1, MIN, 0},
            {1, MAX, 0}, {1, 0, -1}, {1, 0, 4}, {1, 0, MIN}, {1, 0, MAX}};
        for (int[] w : wrong) {
            check.due("seen(" + w[0] + ", " + w[1] + ", " + w[2] + ")", x.seen(w[0], w[1], w[2]), BAD);
        }
        check.due("none is SEEN", x.count(4), 0);
        check.status("seen", x, wrong.length, 0, 0);
        int[][] right = {{1, 0, 0}, {40, 0, 0}, {1, 60, 0}, {1, 0, 3}, {40, 60, 3}};
        for (int i = 0; i < right.length; i++) {
            check.due("seen", x.seen(right[i][0], right[i][1], right[i][2]), i + 1);
        }
    }

    private static void seenHeavyOrMore() {
        check.sentence("HEAVY h or more (1 .. 40)");
        for (int heavy : new int[] {1, 2, 20, 39, 40}) {
            for (int h = 1; h <= 40; h++) {
                ThrownOver x = thrown(0, heavy, 30);
                x.seen(h, 60, 3);
                check.due("HEAVY " + heavy + ", seen " + h + " or more", x.barrel(), heavy >= h ? 1 : 0);
            }
        }
    }

    private static void seenWorthOrLess() {
        check.sentence("WORTH w or less (0 .. 60) (true)");
        for (int worth : new int[] {0, 1, 30, 59, 60}) {
            for (int w = 0; w <= 60; w++) {
                ThrownOver x = thrown(0, 20, worth);
                x.tells(0, 60 - worth);
                x.seen(1, w, 3);
                check.due("WORTH " + worth + ", seen " + w + " or less", x.barrel(), worth <= w ? 1 : 0);
            }
        }
    }

    private static void seenOfHold() {
        check.sentence("of HOLD d (0 .. 2; 3: any)");
        for (int hold = 0; hold < 3; hold++) {
            for (int d = 0; d <= 3; d++) {
                ThrownOver x = thrown(hold, 20, 30);
                x.seen(1, 60, d);
                check.due("of HOLD " + hold + ", seen of " + d, x.barrel(), d == 3 || d == hold ? 1 : 0);
            }
        }
    }

    private static void promise20Full() {
        check.sentence("SEEN: how many there are. BAD; FULL: 6.");
        ThrownOver x = new ThrownOver();
        for (int i = 1; i <= 6; i++) {
            check.due("seen", x.seen(1, 0, 3), i);
        }
        check.due("a seventh", x.seen(1, 0, 3), FULL);
        check.due("a seventh that is BAD", x.seen(0, 0, 3), BAD);
        check.due("count(4)", x.count(4), 6);
        check.status("seen", x, 1, 0, 1);
    }

    private static void promise20AgainBehindForget() {
        check.sentence("SEEN: how many there are. BAD; FULL: 6.");
        ThrownOver x = State.FULLEST.made();
        check.due("a seventh", x.seen(1, 0, 3), FULL);
        x.forget();
        check.due("behind forget", x.seen(1, 0, 3), 1);
        ThrownOver y = State.FULLEST.made();
        y.ship(1, 1);
        check.due("behind ship", y.seen(1, 0, 3), 1);
    }

    private static void promise21HowManyThereWere() {
        check.sentence("No SEEN: how many there were.");
        ThrownOver x = new ThrownOver();
        check.due("none", x.forget(), 0);
        x.seen(1, 0, 0);
        check.due("one", x.forget(), 1);
        check.due("none then", x.forget(), 0);
        ThrownOver y = State.FULLEST.made();
        check.due("six", y.forget(), 6);
        check.due("count(4)", y.count(4), 0);
    }

    private static void promise21LeavesAllElse() {
        check.sentence("No SEEN: how many there were.");
        for (State state : State.values()) {
            ThrownOver x = state.made();
            int were = x.forget();
            for (int i = 0; i < were; i++) {
                x.seen(1 + i, 60 - i, i % 4);
            }
            check.due(state + ": all as it was", Picture.take(x).equals(Picture.take(state.made())), true);
        }
    }

    private static void barrelOfNone() {
        check.sentence("BARREL: GOODS THROWN (bits) that all SEEN fit (the same barrel).");
        check.due("no GOODS", new ThrownOver().barrel(), 0);
        check.due("none THROWN", State.LADEN.made().barrel(), 0);
        ThrownOver x = State.LADEN.made();
        x.seen(1, 60, 3);
        check.due("none THROWN, one SEEN that fits all", x.barrel(), 0);
        x.over(7);
        check.due("one THROWN", x.barrel(), 128);
        x.undo();
        check.due("undone", x.barrel(), 0);
    }

    private static void barrelByNoSeen() {
        check.sentence("BARREL: GOODS THROWN (bits)");
        check.due("all eight", State.EMPTIED.made().barrel(), 255);
        check.due("one, behind which others came", State.SETTLED.made().barrel(), 1);
    }

    private static void barrelThatAllFit() {
        check.sentence("that all SEEN fit (the same barrel)");
        ThrownOver x = State.EMPTIED.made();
        int[][] seen = {{1, 60, 3}, {10, 60, 3}, {1, 35, 3}, {1, 35, 0}, {40, 60, 3}, {40, 0, 0}};
        int[] due = {255, 127, 63, 9, 1, 1};
        for (int i = 0; i < 6; i++) {
            x.seen(seen[i][0], seen[i][1], seen[i][2]);
            check.due("behind " + (i + 1) + " SEEN", x.barrel(), due[i]);
        }
        x.forget();
        x.seen(1, 60, 0);
        x.seen(1, 60, 1);
        check.due("no barrel is of two HOLDS", x.barrel(), 0);
        check.due("whose()", x.whose(), 0);
        check.due("asks()", x.asks(), NONE);
    }

    private static void whoseAll() {
        check.sentence("WHOSE: OWNERS (bits) of these.");
        ThrownOver x = State.EMPTIED.made();
        check.due("all", x.whose(), 15);
        for (int owner = 0; owner < 4; owner++) {
            ThrownOver y = new ThrownOver();
            y.goods(0, owner, 0, 1, 0, 0);
            y.over(0);
            check.due("OWNER " + owner, y.whose(), 1 << owner);
        }
        x.seen(10, 60, 0);
        check.due("goods 0, 3, 6 of OWNERS 0, 3, 2", x.whose(), 13);
    }

    private static void whoseNone() {
        check.sentence("WHOSE, as bits.");
        check.due("no GOODS", new ThrownOver().whose(), 0);
        check.due("none THROWN", State.LADEN.made().whose(), 0);
        ThrownOver x = State.EMPTIED.made();
        x.seen(40, 60, 2);
        check.due("none fits", x.whose(), 0);
    }

    private static ThrownOver floated(int[]... holdsAndKinds) {
        ThrownOver x = new ThrownOver();
        for (int[] g : holdsAndKinds) {
            x.goods(g[1], 0, g[0], 1, 0, 0);
        }
        for (int k = holdsAndKinds.length - 1; k >= 0; k--) {
            x.over(k);
        }
        return x;
    }

    private static void askEachQuestion() {
        check.sentence("0 .. 2: is it from HOLD 0 .. 2; 3 .. 8: is it of KIND 0 .. 5: the greater part is least");
        int[][] holds = {{0, 0, 1, 2}, {1, 1, 0, 2}, {2, 2, 0, 1}};
        for (int q = 0; q < 3; q++) {
            int[] h = holds[q];
            check.due("HOLD " + q, floated(new int[] {h[0], 0}, new int[] {h[1], 0}, new int[] {h[2], 0},
                new int[] {h[3], 0}).asks(), q);
        }
        for (int kind = 0; kind < 6; kind++) {
            int other = (kind + 1) % 6;
            int third = (kind + 2) % 6;
            check.due("KIND " + kind, floated(new int[] {1, kind}, new int[] {1, kind}, new int[] {1, other},
                new int[] {1, third}).asks(), 3 + kind);
        }
    }

    private static void askOfLikeOnesTheFirst() {
        check.sentence("of like ones the first");
        check.due("HOLDS 0 and 1", floated(new int[] {1, 0}, new int[] {0, 0}).asks(), 0);
        check.due("HOLDS 1 and 2", floated(new int[] {2, 0}, new int[] {1, 0}).asks(), 1);
        check.due("HOLDS as well as KINDS", floated(new int[] {2, 3}, new int[] {1, 4}).asks(), 1);
        check.due("KINDS 3 and 4", floated(new int[] {2, 4}, new int[] {2, 3}).asks(), 6);
        check.due("KINDS 4 and 5", floated(new int[] {0, 5}, new int[] {0, 4}).asks(), 7);
        check.due("all alike: none parts", floated(new int[] {2, 5}, new int[] {2, 5}).asks(), 0);
        check.due("yes to all, or no to all, parts as little",
            floated(new int[] {0, 0}, new int[] {0, 0}, new int[] {0, 0}).asks(), 0);
        check.due("KIND parts better than HOLD", floated(new int[] {0, 2}, new int[] {0, 2}, new int[] {0, 1},
            new int[] {1, 1}).asks(), 4);
        check.due("a KIND is not the one that it is under", floated(new int[] {0, 0}, new int[] {0, 0},
            new int[] {0, 1}, new int[] {0, 3}).asks(), 3);
    }

    private static void askOfOne() {
        check.sentence("which question parts what BARREL it may be best");
        check.due("one barrel", floated(new int[] {2, 5}).asks(), 0);
        ThrownOver x = floated(new int[] {1, 4}, new int[] {2, 5});
        check.due("two", x.asks(), 1);
        x.seen(1, 60, 2);
        check.due("one that fits", x.asks(), 0);
        ThrownOver y = floated(new int[] {1, 0}, new int[] {1, 0}, new int[] {1, 0}, new int[] {1, 0},
            new int[] {1, 0}, new int[] {1, 0}, new int[] {1, 0}, new int[] {2, 0});
        check.due("seven and one", y.asks(), 1);
        y.undo();
        check.due("no more of goods 0: six and one", y.asks(), 1);
        int[] alike = {2, 5};
        ThrownOver z = floated(alike, alike, alike, alike, alike, alike, alike, alike);
        check.due("eight alike: the first question", z.asks(), 0);
    }

    private static void askNone() {
        check.sentence("none: it may be none");
        check.due("no GOODS", new ThrownOver().asks(), NONE);
        check.due("none THROWN", State.LADEN.made().asks(), NONE);
        ThrownOver x = thrown(0, 1, 60);
        check.due("one", x.asks(), 0);
        x.seen(2, 60, 3);
        check.due("none fits", x.asks(), NONE);
        check.status("NONE is no refusal", x, 0, 0, 0);
    }

    private static void oddsEachOfTen() {
        check.sentence("each of ten alike likely: the chance that she LIVES as she is: THE FRACTION");
        int[][] due = {{0, 1}, {1, 10}, {1, 5}, {3, 10}, {2, 5}, {1, 2}, {3, 5}, {7, 10}, {4, 5}, {9, 10}, {1, 1},
            {1, 1}};
        ThrownOver x = new ThrownOver();
        for (int lived = 0; lived < due.length; lived++) {
            check.due("odds", x.odds(61 - lived), 1);
            check.fraction("she lives in " + lived, x, due[lived][0], due[lived][1]);
        }
        ThrownOver y = State.ONE.made();
        y.odds(50);
        check.fraction("7 on board: 50 to 53", y, 2, 5);
        y.over(0);
        y.odds(50);
        check.fraction("as she is: 50 to 59", y, 1, 1);
    }

    private static void oddsLimits() {
        check.sentence("the STORM is f to f and 9 (f 0 .. 191)");
        ThrownOver x = new ThrownOver();
        x.ship(0, 200);
        check.due("odds(191)", x.odds(191), 1);
        check.fraction("191 to 200", x, 1, 1);
        x.goods(0, 0, 0, 1, 0, 0);
        check.due("odds(191)", x.odds(191), 1);
        check.fraction("191 to 199", x, 9, 10);
        x.ship(0, 0);
        check.due("odds(0)", x.odds(0), 1);
        check.fraction("0 alone", x, 1, 10);
        x.goods(0, 0, 0, 1, 0, 0);
        check.due("odds(0)", x.odds(0), 1);
        check.fraction("none", x, 0, 1);
    }

    private static void promise25Bad() {
        check.sentence("ODDS are THE FRACTION: 1. BAD.");
        ThrownOver x = new ThrownOver();
        x.odds(58);
        for (int f : new int[] {-1, 192, 200, MIN, MAX, MAX - 9}) {
            check.due("odds(" + f + ")", x.odds(f), BAD);
            check.fraction("it stays", x, 3, 10);
        }
        check.status("odds", x, 6, 0, 0);
    }

    private static void safeAtItsLimits() {
        check.sentence("SAFE: the greatest STORM (0 .. 200) in which she LIVES as she is; none.");
        ThrownOver x = new ThrownOver();
        x.ship(0, 200);
        check.due("200", x.safe(), 200);
        x.goods(0, 0, 0, 1, 0, 0);
        check.due("199", x.safe(), 199);
        x.ship(0, 0);
        check.due("0", x.safe(), 0);
        x.goods(0, 0, 0, 1, 0, 0);
        check.due("none", x.safe(), NONE);
        x.ship(0, 40);
        x.goods(0, 0, 0, 40, 0, 0);
        check.due("40 by 40", x.safe(), 0);
        x.goods(0, 0, 0, 1, 0, 0);
        check.due("41 by 40", x.safe(), NONE);
        check.status("NONE is no refusal", x, 0, 0, 0);
    }

    private static void safeAsSheIs() {
        check.sentence("in which she LIVES as she is");
        ThrownOver x = State.EMPTIED.made();
        int[] due = {60, 20, NONE, NONE, NONE, NONE, NONE, NONE, NONE};
        for (int i = 0; i <= 8; i++) {
            int safe = x.safe();
            check.due(i + " on board", safe, due[i]);
            check.due("she lives", safe == NONE ? x.lives(0) : x.lives(safe), safe == NONE ? 0 : 1);
            check.due("and no more", safe == NONE ? 0 : x.lives(safe + 1), 0);
            x.undo();
        }
    }

    /** The greatest of the first n storms of a seed, by the document's words. */
    private static int greatestStorm(int seed, int n) {
        BigInteger x = BigInteger.valueOf(seed);
        int greatest = 0;
        for (int i = 0; i < n; i++) {
            x = x.multiply(BigInteger.valueOf(1103515245)).add(BigInteger.valueOf(12345))
                .mod(BigInteger.valueOf(2147483648L));
            int storm = x.divide(BigInteger.valueOf(65536)).mod(BigInteger.valueOf(61)).intValue();
            greatest = Math.max(greatest, storm);
        }
        return greatest;
    }

    private static void voyagesStorms() {
        check.sentence("in each, X becomes X times 1103515245 and 12345, by 2147483648 what is left over;"
            + " X by 65536 (cut), by 61 left over, is the STORM");
        for (int seed : new int[] {0, 1, 2, 3, 4, 77, 12345, 500000, 999998, 999999}) {
            for (int n = 0; n <= 30; n++) {
                int greatest = greatestStorm(seed, n);
                ThrownOver x = new ThrownOver();
                x.ship(99, greatest + 1);
                x.goods(0, 0, 0, 1, 60, 0);
                check.due("voyages(" + seed + ", " + n + ") kept", x.voyages(seed, n), 60);
                x.ship(99, greatest);
                x.goods(0, 0, 0, 1, 60, 0);
                check.due("voyages(" + seed + ", " + n + ") thrown", x.voyages(seed, n), n == 0 ? 60 : 0);
            }
        }
    }

    private static void voyagesOfNone() {
        check.sentence("VOYAGES by a SEED (0 .. 999999), n (0 .. 30)");
        ThrownOver x = State.LADEN.made();
        check.due("she does not LIVE as she is, but goes nowhere", x.voyages(0, 0), 196);
        check.due("none on board", State.EMPTIED.made().voyages(0, 0), 0);
        check.due("no GOODS", new ThrownOver().voyages(999999, 30), 0);
        x.over(7);
        check.due("of what is on board", x.voyages(0, 0), 147);
    }

    private static void voyagesLost() {
        check.sentence("LEAST of what is on board then is THROWN, if there is one; else she is lost, and it ends");
        // Seed 1: the storms are 2, 24, ..; seed 0: 0, 56, ..
        ThrownOver x = new ThrownOver();
        x.ship(99, 1);
        check.due("lost without GOODS", x.voyages(1, 1), 0);
        x.ship(99, 20);
        x.goods(0, 0, 0, 1, 60, 0);
        check.due("she lives in 2", x.voyages(1, 1), 60);
        for (int n = 2; n <= 30; n++) {
            check.due("she is lost in 24, and stays so: " + n, x.voyages(1, n), 0);
        }
        check.due("seed 0, calm", x.voyages(0, 1), 60);
        check.due("seed 0, lost in 56", x.voyages(0, 2), 0);
        check.due("it was not so", x.now(3), 60);
    }

    private static void voyagesThrowWhatIsOnBoardThen() {
        check.sentence("LEAST of what is on board then is THROWN");
        // Seed 1: the storms are 2 and 24. Behind the first, 58 may stay; behind the second, 36.
        ThrownOver x = new ThrownOver();
        x.ship(0, 60);
        x.goods(0, 0, 0, 36, 10, 0);
        x.goods(0, 0, 1, 22, 11, 0);
        x.goods(0, 0, 2, 1, 1, 0);
        check.due("goods 2 go", x.voyages(1, 1), 21);
        check.due("then goods 0, that are cheaper than goods 1", x.voyages(1, 2), 11);
        x.ship(0, 60);
        x.goods(0, 0, 0, 36, 12, 0);
        x.goods(0, 0, 1, 22, 11, 0);
        x.goods(0, 0, 2, 1, 1, 0);
        check.due("goods 1 are cheaper", x.voyages(1, 2), 12);
    }

    private static void voyagesLimits() {
        check.sentence("how much (WORTH, true) is left at the end (0: lost)");
        ThrownOver x = new ThrownOver();
        x.ship(99, 200);
        for (int k = 0; k < 8; k++) {
            x.goods(0, 0, k % 3, 17, 60, 0);
        }
        check.due("136 by 140 in the greatest STORM there can be", x.voyages(999999, 30), 480);
        check.due("the least SEED", x.voyages(0, 30), 480);
        check.due("no voyage", x.voyages(999999, 0), 480);
        check.status("voyages", x, 0, 0, 0);
    }

    private static void promise27Bad() {
        check.sentence("`int voyages(int seed, int n)`: VOYAGES. BAD.");
        ThrownOver x = State.LADEN.made();
        for (int seed : new int[] {-1, 1000000, MIN, MAX}) {
            check.due("voyages(" + seed + ", 1)", x.voyages(seed, 1), BAD);
        }
        for (int n : new int[] {-1, 31, MIN, MAX}) {
            check.due("voyages(1, " + n + ")", x.voyages(1, n), BAD);
        }
        check.due("both", x.voyages(-1, 31), BAD);
        check.status("voyages", x, 9, 0, 0);
    }
}
