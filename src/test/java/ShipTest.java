/** Promises 1 to 7: a ship. */
public final class ShipTest {
    private static final Check check = new Check();
    private static final String EIGHT = "ship 1 9;" + "goods 0 0 0 1 0 0;".repeat(7) + "goods 0 0 0 1 0 0";

    public static void main(String[] args) {
        promise1NewObject();
        promise2Ship();
        promise3Goods();
        promise4Tells();
        promise5Type();
        promise6Clear();
        promise7Read();
        promise7Faults();
        promise7WhatStays();
        check.end();
    }

    private static void promise1NewObject() {
        ThrownOver x = new ThrownOver();
        int[] counts = {0, 0, 20, 60, 0, 0, 0};
        for (int what = 0; what < counts.length; what++) {
            check.due("new: count(" + what + ")", x.count(what), counts[what]);
        }
        check.fraction("new", x, 0, 1);
        check.status("new", x, 0, 0, 0);
        check.due("new: from(0)", x.from(0), ThrownOver.NO);
        check.due("new: from(1)", x.from(1), ThrownOver.NO);
        check.due("new: undo()", x.undo(), ThrownOver.NO);
    }

    private static void promise2Ship() {
        ThrownOver x = new ThrownOver();
        check.due("ship(99, 200)", x.ship(99, 200), 0);
        check.due("count(2)", x.count(2), 99);
        check.due("count(3)", x.count(3), 200);
        x.goods(0, 0, 0, 1, 10, 10);
        x.goods(0, 1, 1, 1, 10, 10);
        x.over(0);
        x.seen(1, 60, 3);
        x.type('q');
        x.share(4);
        x.image(1);
        x.ship(-1, 0);
        check.due("ship(0, 0)", x.ship(0, 0), 2);
        int[] counts = {0, 0, 0, 0, 0, 0, 1};
        for (int what = 0; what < counts.length; what++) {
            check.due("after ship: count(" + what + ")", x.count(what), counts[what]);
        }
        check.fraction("after ship", x, 990, 119);
        check.status("after ship", x, 1, 0, 0);
        check.due("from(1)", x.from(1), 1);
        check.due("from(1): count(0)", x.count(0), 2);
        int[][] wrong = {{-1, 0}, {100, 0}, {0, -1}, {0, 201}, {Integer.MIN_VALUE, Integer.MAX_VALUE}};
        for (int[] w : wrong) {
            check.due("ship(" + w[0] + ", " + w[1] + ")", x.ship(w[0], w[1]), ThrownOver.BAD);
        }
        check.due("refused ships: count(0)", x.count(0), 2);
        check.due("refused ships: count(2)", x.count(2), 99);
        check.status("refused ships", x, 6, 0, 0);
    }

    private static void promise3Goods() {
        ThrownOver x = new ThrownOver();
        int[][] wrong = {{-1, 0, 0, 1, 0, 0}, {6, 0, 0, 1, 0, 0}, {0, -1, 0, 1, 0, 0}, {0, 4, 0, 1, 0, 0},
            {0, 0, -1, 1, 0, 0}, {0, 0, 3, 1, 0, 0}, {0, 0, 0, 0, 0, 0}, {0, 0, 0, 41, 0, 0},
            {0, 0, 0, 1, -1, 0}, {0, 0, 0, 1, 61, 0}, {0, 0, 0, 1, 0, -1}, {0, 0, 0, 1, 0, 61}};
        for (int[] w : wrong) {
            check.due("wrong goods", x.goods(w[0], w[1], w[2], w[3], w[4], w[5]), ThrownOver.BAD);
        }
        check.due("wrong goods: count(0)", x.count(0), 0);
        check.status("wrong goods", x, wrong.length, 0, 0);
        check.due("goods 0", x.goods(5, 3, 2, 40, 60, 59), 0);
        check.due("goods 1", x.goods(0, 0, 0, 1, 0, 0), 1);
        int[] facts = {5, 3, 2, 40, 60, 59, 1, 1};
        for (int what = 0; what < facts.length; what++) {
            check.due("of(0, " + what + ")", x.of(0, what), facts[what]);
        }
        for (int k = 2; k < 8; k++) {
            check.due("goods " + k, x.goods(1, 1, 1, 1, 1, 1), k);
        }
        check.due("a 9th goods", x.goods(1, 1, 1, 1, 1, 1), ThrownOver.FULL);
        check.due("a wrong 9th goods", x.goods(6, 1, 1, 1, 1, 1), ThrownOver.BAD);
        check.due("count(0)", x.count(0), 8);
        check.due("count(1)", x.count(1), 8);
        check.status("a 9th goods", x, wrong.length + 1, 0, 1);
        x.over(7);
        check.due("thrown ones still fill her", x.goods(1, 1, 1, 1, 1, 1), ThrownOver.FULL);
        check.due("refused goods leave what may be undone", x.undo(), 8);
    }

    private static void promise4Tells() {
        ThrownOver x = new ThrownOver();
        check.due("tells of none", x.tells(0, 0), ThrownOver.BAD);
        x.goods(0, 0, 0, 5, 7, 9);
        check.due("tells(0, 60)", x.tells(0, 60), 9);
        check.due("tells(0, 0)", x.tells(0, 0), 60);
        check.due("told", x.of(0, 5), 0);
        check.due("worth stays", x.of(0, 4), 7);
        check.due("tells(0, 61)", x.tells(0, 61), ThrownOver.BAD);
        check.due("tells(0, -1)", x.tells(0, -1), ThrownOver.BAD);
        check.due("tells(1, 1)", x.tells(1, 1), ThrownOver.BAD);
        check.due("tells(-1, 1)", x.tells(-1, 1), ThrownOver.BAD);
        check.due("told after refusals", x.of(0, 5), 0);
        x.over(0);
        check.due("tells of thrown ones", x.tells(0, 8), 0);
        check.due("the loss follows", x.now(0), 8);
        check.due("undo behind tells", x.undo(), 1);
        check.due("told behind undo", x.of(0, 5), 8);
    }

    private static void promise5Type() {
        ThrownOver x = new ThrownOver();
        check.due("type(-1)", x.type(-1), ThrownOver.BAD);
        check.due("type(128)", x.type(128), ThrownOver.BAD);
        for (int i = 1; i <= 150; i++) {
            check.due("type " + i, x.type(i % 128), i);
        }
        check.due("a 151st byte", x.type(0), ThrownOver.FULL);
        check.due("a wrong 151st byte", x.type(128), ThrownOver.BAD);
        check.due("count(6)", x.count(6), 150);
        check.status("type", x, 3, 0, 1);
    }

    private static void promise6Clear() {
        ThrownOver x = new ThrownOver();
        check.due("clear() of none", x.clear(), 0);
        Check.type(x, "ship");
        check.due("clear()", x.clear(), 4);
        check.due("count(6)", x.count(6), 0);
        check.due("clear() again", x.clear(), 0);
        check.due("type behind clear", x.type('s'), 1);
    }

    private static void promise7Read() {
        ThrownOver x = new ThrownOver();
        check.due("ship alone", Check.read(x, "ship 7 8;"), 1);
        check.due("count(2)", x.count(2), 7);
        check.due("count(3)", x.count(3), 8);
        check.due("with blanks", Check.read(x, "  ship  099   200 ;  goods 5 3 2 40 60 1;over 0 ;  "), 3);
        check.due("of(0, 0)", x.of(0, 0), 5);
        check.due("of(0, 1)", x.of(0, 1), 3);
        check.due("of(0, 2)", x.of(0, 2), 2);
        check.due("of(0, 3)", x.of(0, 3), 40);
        check.due("of(0, 4)", x.of(0, 4), 60);
        check.due("of(0, 5)", x.of(0, 5), 1);
        check.due("of(0, 6)", x.of(0, 6), 0);
        check.due("nothing to undo", x.undo(), ThrownOver.NO);
        check.due("no blanks", Check.read(x, "ship1 2;goods0 0 0 1 0 0;over0;"), 3);
        check.due("eight goods", Check.read(x, EIGHT), -10 - 150);
        check.due("eight goods, ended", readShort(x, "ship 1 9;", 8), 9);
        check.due("count(0)", x.count(0), 8);
        check.due("over, then goods on top, then over",
            Check.read(x, "ship 1 9;goods 0 0 1 1 0 0;over 0;goods 0 0 1 1 0 0;over 1;"), 5);
        check.due("count(1)", x.count(1), 0);
    }

    /** Eight goods with their six numbers do not fit with blanks: letters and figures part words. */
    private static int readShort(ThrownOver x, String ship, int goods) {
        return Check.read(x, ship + "goods0 0 0 1 0 0;".repeat(goods));
    }

    private static void promise7Faults() {
        String[] faults = {
            "", "0", " ", "1", "ship", "4", "ship 1", "6", "ship 1 2", "8", "ship 1 2 ", "9",
            "ship 1 2;goods 0 0 0 1 0 0", "26", "ship 1 2;over", "13",
            "goods 0 0 0 1 0 0;", "0", " over 0;", "1", "; ship 1 2;", "0", "7;", "0",
            "xhip 1 2;", "0", "shiq 1 2;", "0", "ship 1 2;goodsz", "9", "ship 1 2;goodsa", "9", "ship 1 2;agoods", "9",
            "ship 1 2;over{", "13",
            "ship 1 2;over`", "13", "ship 1/2;", "6", "ship 1:2;", "6", "shi 1 2;", "0",
            "ships 1 2;", "0", "SHIP 1 2;", "0", "ship 1 2;ship 1 2;", "9",
            "ship 100 2;", "5", "ship 1 201;", "7", "ship 1 999;", "7", "ship 0001 2;", "5", "ship 1 0002;", "7",
            "ship 1 2 3;", "9", "ship 1;2;", "6", "ship ship 2;", "5", "ship 1 2;;", "9", "ship 1 2 goods", "9",
            "ship 1 -2;", "7", "ship 1 2.;", "8", "ship\t1 2;", "4", "ship 1 2;\n", "9", "ship 1 2; goodss", "10",
            "ship 1 2;goods 6 0 0 1 0 0;", "15", "ship 1 2;goods 0 4 0 1 0 0;", "17",
            "ship 1 2;goods 0 0 3 1 0 0;", "19", "ship 1 2;goods 0 0 0 0 0 0;", "21",
            "ship 1 2;goods 0 0 0 41 0 0;", "21", "ship 1 2;goods 0 0 0 1 61 0;", "23",
            "ship 1 2;goods 0 0 0 1 0 61;", "25", "ship 1 2;goods 0 0 0 1 0;", "24",
            "ship 1 2;goods 0 0 0 1 0 0 0;", "27", "ship 1 2;over 0;", "14", "ship 1 2;over;", "13",
            "ship 1 2;goods 0 0 0 1 0 0;over 1;", "32", "ship 1 2;goods 0 0 0 1 0 0;over 0 0;", "34",
            "ship 1 2;goods 0 0 0 1 0 0;over 0;over 0;", "39",
            "ship 1 2;goods 0 0 0 1 0 0;goods 0 0 0 1 0 0;over 0;", "50",
            "ship 1 2;goods 0 0 0 1 0 0;over 0001;", "32",
        };
        for (int i = 0; i < faults.length; i += 2) {
            ThrownOver x = new ThrownOver();
            check.due("read of '" + faults[i] + "'", Check.read(x, faults[i]), -10 - Integer.parseInt(faults[i + 1]));
        }
        ThrownOver x = new ThrownOver();
        check.due("a 9th goods", Check.read(x, "ship1 2;" + "goods0 0 0 1 0 0;".repeat(8) + "goods"), -10 - 144);
    }

    private static void promise7WhatStays() {
        ThrownOver x = new ThrownOver();
        x.goods(4, 2, 0, 3, 3, 3);
        x.over(0);
        x.seen(1, 1, 1);
        x.net(2);
        x.image(0);
        Check.type(x, "ship 1 2;goods 0 0 0 1 0 0;over 0;x");
        long before = x.digest();
        check.due("a fault", x.read(), -10 - 34);
        check.due("all stays", x.digest(), before);
        check.due("undo stays", x.count(5), 1);
        check.status("a fault is no refusal", x, 0, 0, 0);
        check.due("read", Check.read(x, "ship 1 2;goods 0 0 0 1 0 0;over 0;"), 3);
        int[] counts = {1, 0, 1, 2, 0, 0, 34};
        for (int what = 0; what < counts.length; what++) {
            check.due("read: count(" + what + ")", x.count(what), counts[what]);
        }
        check.fraction("read", x, -5, 1);
        check.due("the image stays", x.from(0), 1);
        check.due("from(0): count(2)", x.count(2), 20);
        check.due("from(0): count(5)", x.count(5), 1);
        check.due("the text may be read again", x.read(), 3);
    }
}
