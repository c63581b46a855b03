/** Promises 8 to 14: a storm. */
public final class StormTest {
    private static final Check check = new Check();

    public static void main(String[] args) {
        promise8Over();
        promise8MadeGood();
        promise9Undo();
        promise10Of();
        promise11Lives();
        promise12Now();
        promise13Share();
        promise13Bears();
        promise14Net();
        check.end();
    }

    private static void promise8Over() {
        ThrownOver x = new ThrownOver();
        check.due("over of none", x.over(0), ThrownOver.BAD);
        x.goods(0, 0, 1, 1, 5, 11);
        x.goods(0, 0, 1, 1, 5, 22);
        x.goods(0, 0, 2, 1, 5, 33);
        check.due("over(-1)", x.over(-1), ThrownOver.BAD);
        check.due("over(3)", x.over(3), ThrownOver.BAD);
        check.due("not on top", x.over(0), ThrownOver.NO);
        check.due("over(1)", x.over(1), 22);
        check.due("not on board", x.over(1), ThrownOver.NO);
        check.due("over(0)", x.over(0), 11);
        check.due("over(2)", x.over(2), 33);
        check.due("count(1)", x.count(1), 0);
        check.due("count(5)", x.count(5), 3);
        check.status("over", x, 3, 2, 0);
    }

    private static void promise8MadeGood() {
        int[] tolds = {0, 1, 2, 3, 5, 31, 59, 60};
        for (int t : tolds) {
            int[] due = {t, 0, t, 3 * t / 4, 5, 3 * t / 4 / 2};
            for (int kind = 0; kind < 6; kind++) {
                ThrownOver x = new ThrownOver();
                x.goods(kind, 0, 0, 1, 60 - t, t);
                check.due("over of kind " + kind + " told " + t, x.over(0), due[kind]);
                check.due("the loss of kind " + kind + " told " + t, x.now(0), due[kind]);
            }
        }
    }

    private static void promise9Undo() {
        ThrownOver x = new ThrownOver();
        check.due("undo of none", x.undo(), ThrownOver.NO);
        for (int k = 0; k < 8; k++) {
            x.goods(0, 0, k % 3, 1, 1, 1);
        }
        for (int k = 7; k >= 0; k--) {
            x.over(k);
        }
        check.due("count(5)", x.count(5), 8);
        for (int k = 0; k < 8; k++) {
            check.due("undo", x.undo(), k + 1);
            check.due("back on board", x.of(k, 6), 1);
        }
        check.due("undo of no more", x.undo(), ThrownOver.NO);
        check.status("undo", x, 0, 2, 0);

        x.ship(1, 1);
        x.goods(0, 0, 0, 1, 1, 1);
        x.over(0);
        x.goods(0, 0, 0, 1, 1, 1);
        check.due("behind goods that come", x.undo(), ThrownOver.NO);
        check.due("count(1)", x.count(1), 1);
        x.over(1);
        check.due("undo of the later", x.undo(), 1);
        check.due("the first stays away", x.of(0, 6), 0);
    }

    private static void promise10Of() {
        ThrownOver x = new ThrownOver();
        x.goods(1, 2, 0, 3, 4, 5);
        x.goods(5, 3, 0, 6, 7, 8);
        int[][] due = {{1, 2, 0, 3, 4, 5, 1, 0}, {5, 3, 0, 6, 7, 8, 1, 1}};
        for (int k = 0; k < 2; k++) {
            for (int what = 0; what < 8; what++) {
                check.due("of(" + k + ", " + what + ")", x.of(k, what), due[k][what]);
            }
        }
        x.over(1);
        check.due("of(1, 6) thrown", x.of(1, 6), 0);
        check.due("of(1, 7) thrown", x.of(1, 7), 0);
        check.due("of(0, 7) uncovered", x.of(0, 7), 1);
        check.due("of(0, 8)", x.of(0, 8), ThrownOver.BAD);
        check.due("of(0, -1)", x.of(0, -1), ThrownOver.BAD);
        check.due("of(2, 0)", x.of(2, 0), ThrownOver.BAD);
        check.due("of(-1, 0)", x.of(-1, 0), ThrownOver.BAD);
        check.status("of", x, 4, 0, 0);
    }

    private static void promise11Lives() {
        ThrownOver x = new ThrownOver();
        x.goods(0, 0, 0, 40, 0, 0);
        check.due("lives(20)", x.lives(20), 1);
        check.due("lives(21)", x.lives(21), 0);
        check.due("lives(200)", x.lives(200), 0);
        x.over(0);
        check.due("lives(60) without", x.lives(60), 1);
        check.due("lives(61) without", x.lives(61), 0);
        check.due("lives(-1)", x.lives(-1), ThrownOver.BAD);
        check.due("lives(201)", x.lives(201), ThrownOver.BAD);
        x.ship(0, 200);
        check.due("lives(200) empty", x.lives(200), 1);
        check.status("lives", x, 2, 0, 0);
    }

    private static void promise12Now() {
        ThrownOver x = new ThrownOver();
        x.goods(0, 0, 0, 10, 1, 50);
        x.goods(5, 0, 1, 20, 2, 40);
        x.goods(2, 0, 2, 30, 4, 31);
        check.due("loss", x.now(0), 0);
        check.due("whole", x.now(1), 20 + 50 + 43 + 15);
        check.due("heavy", x.now(2), 60);
        check.due("worth", x.now(3), 7);
        x.over(1);
        check.due("loss behind over", x.now(0), 15);
        check.due("whole behind over", x.now(1), 128);
        check.due("heavy behind over", x.now(2), 40);
        check.due("worth behind over", x.now(3), 5);
        check.due("now(4)", x.now(4), ThrownOver.BAD);
        check.due("now(-1)", x.now(-1), ThrownOver.BAD);
        check.status("now", x, 2, 0, 0);
    }

    private static void promise13Share() {
        ThrownOver x = new ThrownOver();
        x.ship(10, 60);
        x.goods(0, 1, 0, 1, 0, 20);
        x.goods(0, 1, 1, 1, 0, 15);
        x.goods(0, 3, 2, 1, 0, 5);
        x.over(0);
        check.due("share(1)", x.share(1), 1);
        check.fraction("share(1) of 20 * 35 / 50", x, 14, 1);
        x.share(3);
        check.fraction("share(3) of 20 * 5 / 50", x, 2, 1);
        x.share(4);
        check.fraction("share(4) of 20 * 10 / 50", x, 4, 1);
        x.tells(2, 6);
        x.share(3);
        check.fraction("share(3) of 20 * 6 / 51", x, 40, 17);
        check.due("share(5)", x.share(5), ThrownOver.BAD);
        check.due("share(-1)", x.share(-1), ThrownOver.BAD);
        check.fraction("a refused share", x, 40, 17);
        x.share(0);
        check.fraction("share(0) of none", x, 0, 1);
        x.ship(0, 60);
        x.goods(4, 2, 0, 1, 9, 9);
        x.over(0);
        x.share(2);
        check.fraction("share of a whole of 0", x, 0, 1);
        check.status("share", x, 2, 0, 0);
    }

    private static void promise13Bears() {
        int[] tolds = {0, 1, 31, 60};
        for (int t : tolds) {
            int[] due = {t, t, t / 2, t, 0, t + 3};
            for (int kind = 0; kind < 6; kind++) {
                ThrownOver x = new ThrownOver();
                x.goods(kind, 0, 0, 1, 60 - t, t);
                check.due("whole with kind " + kind + " told " + t, x.now(1), 20 + due[kind]);
                x.over(0);
                check.due("whole with thrown kind " + kind + " told " + t, x.now(1), 20 + due[kind]);
            }
        }
    }

    private static void promise14Net() {
        ThrownOver x = new ThrownOver();
        x.ship(10, 60);
        x.goods(0, 1, 0, 1, 0, 20);
        x.goods(0, 1, 1, 1, 0, 15);
        x.goods(0, 3, 2, 1, 0, 6);
        x.over(0);
        check.due("net(1)", x.net(1), 1);
        check.fraction("net(1) of 20 * 35 / 51 less 20", x, -320, 51);
        x.net(3);
        check.fraction("net(3)", x, 40, 17);
        check.due("net(4)", x.net(4), ThrownOver.BAD);
        check.due("net(-1)", x.net(-1), ThrownOver.BAD);
        check.fraction("a refused net", x, 40, 17);
        check.due("net(0)", x.net(0), 1);
        check.fraction("net of none", x, 0, 1);
        x.ship(0, 60);
        x.goods(4, 2, 0, 1, 9, 9);
        x.over(0);
        x.net(2);
        check.fraction("net of a whole of 0", x, -5, 1);
        check.status("net", x, 2, 0, 0);
    }
}
