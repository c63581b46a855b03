/** Promises 15 to 19: what to throw. */
public final class OverboardTest {
    private static final Check check = new Check();

    public static void main(String[] args) {
        promise15Least();
        promise15Ties();
        promise15Order();
        promise15EightInOneHold();
        promise15Refused();
        promise16Needful();
        promise17Stow();
        promise17StowTurnsOverTheHold();
        promise18Tell();
        promise19Marked();
        check.end();
    }

    private static void promise15Least() {
        ThrownOver x = new ThrownOver();
        x.ship(0, 30);
        x.goods(0, 0, 0, 20, 1, 60);
        x.goods(0, 0, 0, 5, 30, 60);
        x.goods(0, 0, 1, 10, 25, 0);
        check.due("35 in 30, least(0, -2)", x.least(0, -2), 4);
        check.due("how much, true", x.least(0, -1), 25);
        check.due("25 in 30, what lies under is cheap", x.least(20, -2), 3);
        check.due("how much for both", x.least(20, -1), 31);
        check.due("all must go", x.least(30, -2), 7);
        check.due("none", x.least(31, -2), ThrownOver.NONE);
        check.due("how much of none", x.least(31, -1), ThrownOver.NONE);
        check.due("first of none", x.least(31, 0), ThrownOver.NONE);
        x.over(1);
        check.due("of what is on board", x.least(0, -2), 0);
        check.due("of what is on board in a storm", x.least(10, -2), 1);
        check.status("least", x, 0, 0, 0);
    }

    private static void promise15Ties() {
        ThrownOver x = new ThrownOver();
        x.ship(0, 30);
        x.goods(0, 0, 0, 10, 5, 0);
        x.goods(0, 0, 1, 10, 5, 0);
        x.goods(0, 0, 2, 20, 10, 0);
        check.due("like ones, fewest goods", x.least(10, -2), 4);
        check.due("like ones, least bits", x.least(0, -2), 1);
        x.ship(0, 30);
        x.goods(0, 0, 0, 40, 0, 0);
        x.goods(0, 0, 1, 1, 0, 0);
        check.due("no worth is lost: fewest", x.least(0, -2), 1);
        for (int hold = 0; hold < 3; hold++) {
            x.ship(0, 4);
            x.goods(0, 0, hold, 1, 3, 0);
            x.goods(0, 0, hold, 1, 3, 0);
            x.goods(0, 0, (hold + 1) % 3, 2, 6, 0);
            check.due("one rather than two of hold " + hold, x.least(2, -2), 4);
        }
    }

    private static void promise15Order() {
        ThrownOver x = new ThrownOver();
        x.ship(0, 8);
        int[] holds = {0, 2, 1, 0, 1, 2, 0, 2};
        for (int k = 0; k < 8; k++) {
            x.goods(0, 0, holds[k], 1, 1, 1);
        }
        check.due("all", x.least(8, -2), 255);
        int[] order = {4, 2, 6, 3, 0, 7, 5, 1};
        for (int i = 0; i < 8; i++) {
            check.due("least(8, " + i + ")", x.least(8, i), order[i]);
        }
        check.due("a ninth", x.least(8, 8), -5);
        check.due("far beyond", x.least(8, Integer.MAX_VALUE), -5);
        check.due("first of an empty one", x.least(0, 0), -5);
        check.status("order", x, 0, 0, 0);
    }

    private static void promise15EightInOneHold() {
        for (int hold = 0; hold < 3; hold++) {
            ThrownOver x = new ThrownOver();
            x.ship(0, 8);
            for (int k = 0; k < 8; k++) {
                x.goods(0, 0, hold, 1, k, 0);
            }
            for (int f = 0; f <= 8; f++) {
                check.due("eight in hold " + hold + ", storm " + f, x.least(f, -2), 255 & -1 << 8 - f);
            }
            check.due("the last to go", x.least(8, 7), 0);
            check.due("what they were worth", x.least(8, -1), 28);
        }
    }

    private static void promise15Refused() {
        ThrownOver x = new ThrownOver();
        check.due("least(-1, 0)", x.least(-1, 0), -10);
        check.due("least(201, 0)", x.least(201, 0), -10);
        check.due("least(0, -3)", x.least(0, -3), -10);
        check.status("least refused", x, 3, 0, 0);
    }

    private static void promise16Needful() {
        ThrownOver x = new ThrownOver();
        x.ship(0, 30);
        x.goods(0, 0, 0, 10, 0, 0);
        x.goods(0, 0, 1, 20, 0, 0);
        x.goods(0, 0, 2, 15, 0, 0);
        x.over(1);
        x.over(2);
        check.due("30 of 30 with the one", x.needful(0), 0);
        check.due("31 of 30 with the one", x.needful(1), 2);
        check.due("both", x.needful(6), 6);
        check.due("lost anyhow", x.needful(21), 6);
        x.over(0);
        check.due("10 of 10 with the first", x.needful(20), 6);
        check.due("10 of 9 with the first", x.needful(21), 7);
        check.due("needful(-1)", x.needful(-1), ThrownOver.BAD);
        check.due("needful(201)", x.needful(201), ThrownOver.BAD);
        check.status("needful", x, 2, 0, 0);
    }

    private static void promise17Stow() {
        ThrownOver x = new ThrownOver();
        check.due("stow of none", x.stow(0, 0), ThrownOver.BAD);
        x.ship(0, 20);
        x.goods(0, 0, 0, 10, 5, 0);
        x.goods(0, 0, 1, 10, 20, 0);
        x.goods(0, 0, 2, 10, 30, 0);
        check.due("least", x.least(0, -2), 1);
        check.due("on top she gives no other", x.stow(0, 0), ThrownOver.NONE);
        check.due("on goods 0 they would go first", x.stow(1, 0), 1);
        check.due("on goods 0 the cheaper 1 would go", x.stow(2, 0), 0);
        check.due("no storm takes any", x.stow(2, 200), ThrownOver.NONE);
        check.due("stow(3, 0)", x.stow(3, 0), ThrownOver.BAD);
        check.due("stow(-1, 0)", x.stow(-1, 0), ThrownOver.BAD);
        check.due("stow(0, -1)", x.stow(0, -1), ThrownOver.BAD);
        check.due("stow(0, 201)", x.stow(0, 201), ThrownOver.BAD);
        x.over(0);
        check.due("stow of thrown ones", x.stow(0, 0), ThrownOver.NO);
        check.due("a wrong storm comes first", x.stow(0, 201), ThrownOver.BAD);
        check.status("stow", x, 6, 1, 0);
    }

    /** Goods 0 are heavy and cheap, saved only by what lies on them. */
    private static void promise17StowTurnsOverTheHold() {
        ThrownOver x = new ThrownOver();
        x.ship(0, 45);
        x.goods(0, 0, 0, 30, 1, 0);
        x.goods(0, 0, 0, 5, 60, 0);
        x.goods(0, 0, 1, 15, 20, 0);
        check.due("least spares what lies under", x.least(0, -2), 4);
        check.due("only as they lie", x.stow(0, 0), 3);
        check.due("the dear one anywhere", x.stow(1, 0), 0);
        long before = x.digest();
        x.stow(0, 0);
        check.due("stow changes nothing", x.digest(), before);
    }

    private static void promise18Tell() {
        ThrownOver x = new ThrownOver();
        check.due("tell of none", x.tell(0), ThrownOver.BAD);
        x.ship(50, 200);
        x.goods(0, 0, 0, 1, 10, 10);
        x.goods(0, 1, 1, 1, 10, 10);
        check.due("no loss: all alike", x.tell(0), 0);
        x.over(0);
        check.due("thrown: as high as may be", x.tell(0), 60);
        check.due("saved: as low as may be", x.tell(1), 0);
        check.due("told stays", x.of(0, 5), 10);
        check.due("tell(2)", x.tell(2), ThrownOver.BAD);
        check.due("tell(-1)", x.tell(-1), ThrownOver.BAD);
        check.status("tell", x, 3, 0, 0);
        x.ship(1, 200);
        x.goods(5, 2, 0, 1, 0, 0);
        x.over(0);
        check.due("thrown by habit", x.tell(0), bestOfHabit());
        check.fraction("tell leaves THE FRACTION", x, 0, 1);
    }

    /** One owner with goods of habit alone, a ship worth 1: net = made * (t + 3) / (t + 4) - made. */
    private static int bestOfHabit() {
        int best = 0;
        double least = 1;
        for (int t = 0; t <= 60; t++) {
            int made = 3 * t / 4 / 2;
            double net = -made / (t + 4.0);
            if (net < least - 1e-12) {
                least = net;
                best = t;
            }
        }
        return best;
    }

    private static void promise19Marked() {
        ThrownOver x = new ThrownOver();
        check.due("marked of none", x.marked(0, 0), ThrownOver.BAD);
        x.ship(50, 200);
        x.goods(0, 0, 0, 1, 10, 10);
        x.goods(0, 1, 1, 1, 10, 10);
        x.over(0);
        check.due("marked(0, 60)", x.marked(0, 60), 1);
        check.fraction("60 * 60 / 120 less 60", x, -30, 1);
        x.marked(1, 20);
        check.fraction("10 * 20 / 80", x, 5, 2);
        x.marked(1, 0);
        check.fraction("10 * 0 / 60", x, 0, 1);
        x.net(1);
        check.fraction("net stays", x, 10, 7);
        check.due("marked(0, 61)", x.marked(0, 61), ThrownOver.BAD);
        check.due("marked(0, -1)", x.marked(0, -1), ThrownOver.BAD);
        check.due("marked(2, 0)", x.marked(2, 0), ThrownOver.BAD);
        check.due("marked(-1, 0)", x.marked(-1, 0), ThrownOver.BAD);
        check.fraction("refused", x, 10, 7);
        check.status("marked", x, 5, 0, 0);
    }
}
