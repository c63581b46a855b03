/** Promises 20 to 27: what floated home, odds and voyages. */
public final class FloatedHomeTest {
    private static final Check check = new Check();

    public static void main(String[] args) {
        promise20Seen();
        promise21Forget();
        promise22Barrel();
        promise23Whose();
        promise24Asks();
        promise25Odds();
        promise26Safe();
        promise27Voyages();
        check.end();
    }

    private static void promise20Seen() {
        ThrownOver x = new ThrownOver();
        int[][] wrong = {{0, 0, 0}, {41, 0, 0}, {1, -1, 0}, {1, 61, 0}, {1, 0, -1}, {1, 0, 4}};
        for (int[] w : wrong) {
            check.due("wrong seen", x.seen(w[0], w[1], w[2]), ThrownOver.BAD);
        }
        check.due("count(4)", x.count(4), 0);
        for (int i = 1; i <= 6; i++) {
            check.due("seen " + i, x.seen(40, 60, 3), i);
        }
        check.due("a 7th", x.seen(40, 60, 3), ThrownOver.FULL);
        check.due("a wrong 7th", x.seen(0, 60, 3), ThrownOver.BAD);
        check.due("count(4)", x.count(4), 6);
        check.status("seen", x, 7, 0, 1);
    }

    private static void promise21Forget() {
        ThrownOver x = new ThrownOver();
        check.due("forget of none", x.forget(), 0);
        x.goods(0, 0, 0, 5, 5, 5);
        x.over(0);
        x.seen(40, 0, 0);
        x.seen(40, 0, 1);
        check.due("barrel()", x.barrel(), 0);
        check.due("forget()", x.forget(), 2);
        check.due("count(4)", x.count(4), 0);
        check.due("barrel() then", x.barrel(), 1);
    }

    private static void promise22Barrel() {
        ThrownOver x = new ThrownOver();
        for (int k = 0; k < 6; k++) {
            x.goods(0, 0, k % 3, 10 + k, 20 + k, 60);
        }
        check.due("none thrown", x.barrel(), 0);
        for (int k = 5; k >= 1; k--) {
            x.over(k);
        }
        check.due("all thrown, none seen", x.barrel(), 62);
        x.seen(12, 60, 3);
        check.due("12 or more", x.barrel(), 60);
        x.seen(1, 24, 3);
        check.due("worth 24 or less", x.barrel(), 28);
        x.seen(1, 60, 1);
        check.due("of hold 1", x.barrel(), 16);
        x.seen(1, 60, 0);
        check.due("no same barrel", x.barrel(), 0);
        x.forget();
        x.seen(10, 20, 0);
        check.due("those on board float not", x.barrel(), 0);
        x.over(0);
        check.due("just as heavy, just as dear", x.barrel(), 1);
    }

    private static void promise23Whose() {
        ThrownOver x = new ThrownOver();
        x.goods(0, 3, 0, 10, 20, 60);
        x.goods(0, 1, 1, 11, 20, 60);
        x.goods(0, 3, 2, 12, 20, 60);
        x.goods(0, 0, 2, 12, 20, 60);
        check.due("none thrown", x.whose(), 0);
        x.over(0);
        x.over(1);
        x.over(3);
        x.over(2);
        check.due("all", x.whose(), 11);
        x.seen(12, 60, 3);
        check.due("two of hold 2", x.whose(), 9);
        x.seen(40, 0, 3);
        check.due("none fits", x.whose(), 0);
        x.forget();
        x.seen(1, 60, 0);
        check.due("the first goods", x.whose(), 8);
    }

    private static void promise24Asks() {
        ThrownOver x = new ThrownOver();
        check.due("none", x.asks(), ThrownOver.NONE);
        x.goods(1, 0, 2, 1, 0, 0);
        x.goods(2, 0, 2, 1, 0, 0);
        x.goods(2, 0, 2, 1, 0, 0);
        x.goods(5, 0, 2, 1, 0, 0);
        check.due("none thrown", x.asks(), ThrownOver.NONE);
        for (int k = 3; k >= 0; k--) {
            x.over(k);
        }
        check.due("halved by kind 2", x.asks(), 5);
        x.undo();
        check.due("one of three by kind 2, then 5", x.asks(), 5);
        x.undo();
        check.due("one of two", x.asks(), 5);
        x.undo();
        check.due("one: the first question", x.asks(), 0);
        x.ship(0, 60);
        x.goods(0, 0, 1, 1, 0, 0);
        x.goods(0, 0, 2, 1, 0, 0);
        x.over(0);
        x.over(1);
        check.due("parted by hold 1", x.asks(), 1);
        x.goods(4, 0, 1, 1, 0, 0);
        x.over(2);
        check.due("two of three either way: the first", x.asks(), 1);
        x.ship(0, 60);
        x.goods(0, 0, 0, 1, 0, 0);
        x.goods(0, 0, 0, 1, 0, 0);
        x.over(1);
        x.over(0);
        check.due("nothing parts them", x.asks(), 0);
        x.ship(0, 60);
        x.goods(0, 0, 0, 1, 0, 0);
        x.goods(4, 0, 0, 1, 0, 0);
        x.over(1);
        x.over(0);
        check.due("parted by kind 0, that is not over its under-kinds here", x.asks(), 3);
        x.ship(0, 60);
        for (int k = 0; k < 8; k++) {
            x.goods(5, 0, 2, 1, 0, 0);
        }
        for (int k = 7; k >= 0; k--) {
            x.over(k);
        }
        check.due("eight alike", x.asks(), 0);
        check.status("asks", x, 0, 0, 0);
    }

    private static void promise25Odds() {
        ThrownOver x = new ThrownOver();
        check.due("odds(0)", x.odds(0), 1);
        check.fraction("odds(0)", x, 1, 1);
        x.odds(60);
        check.fraction("odds(60)", x, 1, 10);
        x.odds(61);
        check.fraction("odds(61)", x, 0, 1);
        x.goods(0, 0, 0, 7, 0, 0);
        x.odds(50);
        check.fraction("odds(50)", x, 2, 5);
        check.due("odds(192)", x.odds(192), ThrownOver.BAD);
        check.due("odds(-1)", x.odds(-1), ThrownOver.BAD);
        check.fraction("refused odds", x, 2, 5);
        x.ship(0, 200);
        check.due("odds(191)", x.odds(191), 1);
        check.fraction("odds(191)", x, 1, 1);
        check.status("odds", x, 2, 0, 0);
    }

    private static void promise26Safe() {
        ThrownOver x = new ThrownOver();
        check.due("empty", x.safe(), 60);
        x.goods(0, 0, 0, 40, 0, 0);
        check.due("20 left", x.safe(), 20);
        x.goods(0, 0, 1, 20, 0, 0);
        check.due("0 left", x.safe(), 0);
        x.goods(0, 0, 2, 1, 0, 0);
        check.due("too heavy", x.safe(), ThrownOver.NONE);
        x.over(0);
        check.due("lighter", x.safe(), 39);
        x.ship(0, 200);
        check.due("200", x.safe(), 200);
        x.ship(0, 0);
        check.due("0", x.safe(), 0);
        check.status("safe", x, 0, 0, 0);
    }

    private static void promise27Voyages() {
        ThrownOver x = new ThrownOver();
        x.ship(99, 60);
        x.goods(0, 0, 0, 30, 7, 0);
        x.goods(0, 0, 1, 20, 11, 0);
        x.goods(0, 0, 2, 10, 13, 0);
        long before = x.digest();
        check.due("no voyage", x.voyages(5, 0), 31);
        // Seed 0: X is 12345, the storm 0; then 1406932606, the storm 21467 by 61: 56.
        check.due("seed 0, one calm voyage", x.voyages(0, 1), 31);
        check.due("seed 0, the second takes all", x.voyages(0, 2), 0);
        // Seed 1: X is 1103527590, the storm 16838 by 61: 2; then 377401575, 5758 by 61: 24.
        check.due("seed 1, one voyage takes goods 0", x.voyages(1, 1), 24);
        check.due("seed 1, two voyages", x.voyages(1, 2), 24);
        check.due("voyages change nothing", x.digest(), before);
        check.due("voyages(-1, 0)", x.voyages(-1, 0), ThrownOver.BAD);
        check.due("voyages(1000000, 0)", x.voyages(1000000, 0), ThrownOver.BAD);
        check.due("voyages(0, -1)", x.voyages(0, -1), ThrownOver.BAD);
        check.due("voyages(0, 31)", x.voyages(0, 31), ThrownOver.BAD);
        check.due("voyages(999999, 30)", x.voyages(999999, 30) >= 0 ? 1 : 0, 1);
        check.status("voyages", x, 4, 0, 0);
        x.ship(99, 1);
        x.goods(0, 0, 0, 1, 60, 0);
        check.due("a storm she can not outlive", x.voyages(1, 1), 0);
        check.due("she lives in the calm", x.voyages(0, 1), 60);
    }
}
