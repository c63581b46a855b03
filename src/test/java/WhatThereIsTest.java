/** Promises 28 to 33: what there is. */
public final class WhatThereIsTest {
    private static final Check check = new Check();

    public static void main(String[] args) {
        promise28Part();
        promise29And30Images();
        promise30WhatImagesKeepNot();
        promise31Status();
        promise32Count();
        promise33Digest();
        check.end();
    }

    private static void promise28Part() {
        ThrownOver x = new ThrownOver();
        check.due("above", x.part(0), 0);
        check.due("below", x.part(1), 1);
        x.odds(58);
        check.due("above", x.part(0), 3);
        check.due("below", x.part(1), 10);
        check.due("part(2)", x.part(2), ThrownOver.BAD);
        check.due("part(-1)", x.part(-1), ThrownOver.BAD);
        check.status("part", x, 2, 0, 0);
    }

    private static void promise29And30Images() {
        ThrownOver x = new ThrownOver();
        check.due("image(-1)", x.image(-1), ThrownOver.BAD);
        check.due("image(2)", x.image(2), ThrownOver.BAD);
        check.due("from(-1)", x.from(-1), ThrownOver.BAD);
        check.due("from(2)", x.from(2), ThrownOver.BAD);
        check.due("from(0) of none", x.from(0), ThrownOver.NO);
        x.ship(33, 44);
        x.goods(3, 2, 1, 4, 5, 6);
        x.goods(1, 1, 1, 7, 8, 9);
        x.seen(3, 2, 1);
        x.over(1);
        x.over(0);
        long full = x.digest();
        check.due("image(0)", x.image(0), 1);
        check.due("from(1) of none", x.from(1), ThrownOver.NO);
        x.ship(1, 2);
        x.goods(0, 0, 0, 1, 1, 1);
        x.goods(0, 0, 1, 1, 1, 1);
        x.seen(9, 9, 0);
        x.over(0);
        x.over(1);
        long small = x.digest();
        check.due("image(1)", x.image(1), 1);
        check.due("from(0)", x.from(0), 1);
        check.due("from(0): digest", x.digest(), full);
        check.due("undo goes on", x.undo(), 1);
        check.due("the last one first", x.of(0, 6), 1);
        check.due("undo goes on", x.undo(), 2);
        x.tells(0, 60);
        check.due("from(1)", x.from(1), 1);
        check.due("from(1): digest", x.digest(), small);
        check.due("undo goes on", x.undo(), 1);
        check.due("the last one first", x.of(1, 6), 1);
        check.due("from(0) again", x.from(0), 1);
        check.due("the image is as it was kept", x.digest(), full);
        x.image(1);
        x.ship(0, 0);
        x.from(1);
        check.due("an image over an image", x.digest(), full);
        check.status("images", x, 4, 2, 0);
    }

    private static void promise30WhatImagesKeepNot() {
        ThrownOver x = new ThrownOver();
        x.type('a');
        x.odds(58);
        x.image(0);
        x.type('b');
        x.odds(60);
        x.over(0);
        x.from(0);
        check.due("the text goes on", x.count(6), 2);
        check.fraction("the fraction goes on", x, 1, 10);
        check.status("the status goes on", x, 1, 0, 0);
    }

    private static void promise31Status() {
        ThrownOver x = new ThrownOver();
        check.due("status(3)", x.status(3), -1);
        check.due("status(-1)", x.status(-1), -1);
        check.status("other whats", x, 2, 0, 0);
        x.undo();
        x.from(0);
        for (int i = 0; i < 8; i++) {
            x.seen(1, 1, 1);
        }
        x.least(201, 0);
        x.read();
        x.asks();
        x.least(61, -2);
        x.least(0, 0);
        check.status("all reasons", x, 3, 2, 2);
        x.ship(1, 1);
        check.status("behind ship", x, 3, 2, 2);
    }

    private static void promise32Count() {
        ThrownOver x = new ThrownOver();
        x.ship(3, 4);
        x.goods(0, 0, 0, 1, 1, 1);
        x.goods(0, 0, 0, 1, 1, 1);
        x.goods(0, 0, 0, 1, 1, 1);
        x.over(2);
        x.seen(1, 1, 1);
        x.seen(1, 1, 1);
        for (int i = 0; i < 5; i++) {
            x.type(32);
        }
        int[] due = {3, 2, 3, 4, 2, 1, 5};
        for (int what = 0; what < due.length; what++) {
            check.due("count(" + what + ")", x.count(what), due[what]);
        }
        check.due("count(7)", x.count(7), ThrownOver.BAD);
        check.due("count(-1)", x.count(-1), ThrownOver.BAD);
        check.status("count", x, 2, 0, 0);
    }

    private static void promise33Digest() {
        ThrownOver x = new ThrownOver();
        check.due("digest of a new one", x.digest(), chain(0, 0, 20, 60, 0, 0, 0, 0, 1));
        x.ship(3, 50);
        x.goods(3, 2, 1, 4, 5, 6);
        x.goods(1, 1, 1, 7, 8, 9);
        x.over(1);
        x.seen(30, 20, 3);
        x.type(9);
        x.odds(41);
        check.due("digest", x.digest(),
            chain(2, 1, 3, 50, 1, 1, 1, 3, 2, 1, 4, 5, 6, 1, 1, 1, 1, 7, 8, 9, 0, 30, 20, 3, 3, 5));
        check.due("digest changes nothing", x.digest(), x.digest());
        check.status("digest", x, 0, 0, 0);
    }

    private static long chain(long... values) {
        long h = 1117;
        for (long v : values) {
            h = 31 * h + v;
        }
        return h;
    }
}
