/** Promises 1 to 6, and the terms that they need: each sentence that names a limit, in a method of its own. */
public final class ShipEdgesTest {
    private static final int BAD = ThrownOver.BAD, NO = ThrownOver.NO, FULL = ThrownOver.FULL, NONE = ThrownOver.NONE;
    private static final Check check = new Check();

    public static void main(String[] args) {
        shipsWorth();
        shipsCarries();
        shipIsOwnedByNobody();
        goodsComeAs0To7();
        holds();
        eachLiesOnTop();
        onBoardAtFirst();
        eachNumberOfGoods();
        promise1AsTold();
        promise1AllGoodsRefused();
        promise2AllElseAsAtFirst();
        promise2HowManyThereWere();
        promise2WhatStays();
        promise3Full();
        promise3RoomAgain();
        promise4WhatWasTold();
        promise4GoodsThatAreNot();
        promise4LeavesAllElse();
        promise5Bytes();
        promise5Full();
        promise6HowManyItHad();
        promise6LeavesAllElse();
        check.end();
    }

    private static void shipsWorth() {
        check.sentence("WORTH (0 .. 99; 20 at first)");
        ThrownOver x = new ThrownOver();
        check.due("at first", x.count(2), 20);
        check.due("ship(-1, 60)", x.ship(-1, 60), BAD);
        check.due("ship(100, 60)", x.ship(100, 60), BAD);
        check.due("WORTH stays", x.count(2), 20);
        check.due("ship(99, 60)", x.ship(99, 60), 0);
        check.due("the most", x.count(2), 99);
        check.due("ship(0, 60)", x.ship(0, 60), 0);
        check.due("the least", x.count(2), 0);
        check.due("THE WHOLE of nothing", x.now(1), 0);
        check.due("ship(MIN, 60)", x.ship(Integer.MIN_VALUE, 60), BAD);
        check.due("ship(MAX, 60)", x.ship(Integer.MAX_VALUE, 60), BAD);
    }

    private static void shipsCarries() {
        check.sentence("CARRIES (0 .. 200; 60 at first)");
        ThrownOver x = new ThrownOver();
        check.due("at first", x.count(3), 60);
        check.due("ship(20, -1)", x.ship(20, -1), BAD);
        check.due("ship(20, 201)", x.ship(20, 201), BAD);
        check.due("CARRIES stays", x.count(3), 60);
        check.due("ship(20, 200)", x.ship(20, 200), 0);
        check.due("the most", x.count(3), 200);
        check.due("lives(200)", x.lives(200), 1);
        check.due("ship(20, 0)", x.ship(20, 0), 0);
        check.due("the least", x.count(3), 0);
        check.due("lives(0) with nothing", x.lives(0), 1);
        check.due("lives(1) with nothing", x.lives(1), 0);
        check.due("ship(20, MIN)", x.ship(20, Integer.MIN_VALUE), BAD);
        check.due("ship(20, MAX)", x.ship(20, Integer.MAX_VALUE), BAD);
    }

    private static void shipIsOwnedByNobody() {
        check.sentence("owned by nobody of the OWNERS 0 .. 3");
        ThrownOver x = new ThrownOver();
        x.ship(10, 60);
        x.goods(4, 0, 0, 1, 1, 1);
        x.over(0);
        for (int owner = 0; owner < 4; owner++) {
            x.share(owner);
            check.fraction("share(" + owner + ")", x, 0, 1);
        }
        x.share(4);
        check.fraction("share(4): the ship bears it all", x, 5, 1);
    }

    private static void goodsComeAs0To7() {
        check.sentence("GOODS 0 .. 7, as they come");
        ThrownOver x = new ThrownOver();
        for (int k = 0; k < 8; k++) {
            check.due("of(" + k + ", 3) ahead", x.of(k, 3), BAD);
            check.due("goods", x.goods(0, 0, 0, 1 + k, 0, 0), k);
            check.due("of(" + k + ", 3)", x.of(k, 3), 1 + k);
        }
        check.due("of(8, 3)", x.of(8, 3), BAD);
        check.due("of(-1, 3)", x.of(-1, 3), BAD);
        check.due("a ninth", x.goods(0, 0, 0, 9, 0, 0), FULL);
    }

    private static void holds() {
        check.sentence("HOLDS 0 .. 2");
        ThrownOver x = new ThrownOver();
        check.due("hold -1", x.goods(0, 0, -1, 1, 0, 0), BAD);
        check.due("hold 3", x.goods(0, 0, 3, 1, 0, 0), BAD);
        for (int hold = 0; hold < 3; hold++) {
            check.due("hold " + hold, x.goods(0, 0, hold, 1, 0, 0), hold);
            check.due("of hold " + hold, x.of(hold, 2), hold);
        }
    }

    private static void eachLiesOnTop() {
        check.sentence("each lies on top of those in its HOLD that came ahead of it");
        for (int hold = 0; hold < 3; hold++) {
            ThrownOver x = new ThrownOver();
            for (int k = 0; k < 8; k++) {
                x.goods(0, 0, hold, 1, 0, 0);
                for (int i = 0; i <= k; i++) {
                    check.due("of(" + i + ", 7) of " + (k + 1), x.of(i, 7), i == k ? 1 : 0);
                }
            }
        }
        ThrownOver y = new ThrownOver();
        y.goods(0, 0, 0, 1, 0, 0);
        y.goods(0, 0, 1, 1, 0, 0);
        y.goods(0, 0, 2, 1, 0, 0);
        for (int k = 0; k < 3; k++) {
            check.due("another HOLD covers not: of(" + k + ", 7)", y.of(k, 7), 1);
        }
    }

    private static void onBoardAtFirst() {
        check.sentence("on board at first");
        ThrownOver x = State.LADEN.made();
        for (int k = 0; k < 8; k++) {
            check.due("of(" + k + ", 6)", x.of(k, 6), 1);
        }
        check.due("count(1)", x.count(1), 8);
        ThrownOver y = State.SETTLED.made();
        check.due("those that come behind a THROWN one", y.of(2, 6), 1);
        check.due("the THROWN one stays away", y.of(0, 6), 0);
    }

    private static void eachNumberOfGoods() {
        check.sentence("a KIND, an OWNER, a HOLD, HEAVY (1 .. 40), WORTH (0 .. 60), TOLD (0 .. 60: worth as told)");
        int[] least = {0, 0, 0, 1, 0, 0};
        int[] most = {5, 3, 2, 40, 60, 60};
        for (int what = 0; what < 6; what++) {
            for (int value : new int[] {least[what], most[what]}) {
                int[] a = {1, 1, 1, 1, 1, 1};
                a[what] = value;
                ThrownOver x = new ThrownOver();
                check.due("number " + what + " is " + value, come(x, a), 0);
                for (int i = 0; i < 6; i++) {
                    check.due("of(0, " + i + ")", x.of(0, i), a[i]);
                }
            }
            int[] wrong = {least[what] - 1, most[what] + 1, Integer.MIN_VALUE, Integer.MAX_VALUE};
            for (int value : wrong) {
                int[] a = {1, 1, 1, 1, 1, 1};
                a[what] = value;
                ThrownOver x = new ThrownOver();
                check.due("number " + what + " is " + value, come(x, a), BAD);
                check.due("none came", x.count(0), 0);
                check.status("number " + what + " is " + value, x, 1, 0, 0);
            }
        }
    }

    private static int come(ThrownOver x, int[] a) {
        return x.goods(a[0], a[1], a[2], a[3], a[4], a[5]);
    }

    private static void promise1AsTold() {
        check.sentence("`ThrownOver()`: As told; no GOODS.");
        ThrownOver x = new ThrownOver();
        int[] counts = {0, 0, 20, 60, 0, 0, 0};
        for (int what = 0; what < 7; what++) {
            check.due("count(" + what + ")", x.count(what), counts[what]);
        }
        int[] nows = {0, 20, 0, 0};
        for (int what = 0; what < 4; what++) {
            check.due("now(" + what + ")", x.now(what), nows[what]);
        }
        check.fraction("THE FRACTION", x, 0, 1);
        check.status("STATUS", x, 0, 0, 0);
        check.due("clear()", x.clear(), 0);
        check.due("forget()", x.forget(), 0);
        check.due("barrel()", x.barrel(), 0);
        check.due("whose()", x.whose(), 0);
        check.due("asks()", x.asks(), NONE);
        check.due("safe()", x.safe(), 60);
        check.due("lives(60)", x.lives(60), 1);
        check.due("lives(61)", x.lives(61), 0);
        check.due("needful(200)", x.needful(200), 0);
        check.due("voyages(0, 30)", x.voyages(0, 30), 0);
        check.due("read() of an empty TEXT", x.read(), -10);
        check.due("undo()", x.undo(), NO);
        check.due("from(0)", x.from(0), NO);
        check.due("from(1)", x.from(1), NO);
        check.status("STATUS then", x, 0, 3, 0);
    }

    private static void promise1AllGoodsRefused() {
        check.sentence("`ThrownOver()`: As told; no GOODS.");
        for (int k : new int[] {0, 7}) {
            ThrownOver x = new ThrownOver();
            check.due("tells", x.tells(k, 0), BAD);
            check.due("over", x.over(k), BAD);
            check.due("of", x.of(k, 6), BAD);
            check.due("stow", x.stow(k, 0), BAD);
            check.due("tell", x.tell(k), BAD);
            check.due("marked", x.marked(k, 0), BAD);
            check.status("none is there", x, 6, 0, 0);
        }
    }

    private static void promise2AllElseAsAtFirst() {
        check.sentence("WORTH, CARRIES, all else as at first (but for IMAGES, THE TEXT, THE FRACTION, STATUS)");
        for (State state : State.values()) {
            ThrownOver x = state.made();
            x.clear();
            x.ship(7, 8);
            x.odds(0);
            ThrownOver y = new ThrownOver();
            y.ship(7, 8);
            y.odds(0);
            check.due(state + ": digest()", x.digest(), y.digest());
            check.due(state + ": undo()", x.undo(), NO);
            check.due(state + ": barrel()", x.barrel(), 0);
            check.due(state + ": forget()", x.forget(), 0);
            check.due(state + ": of(0, 0)", x.of(0, 0), BAD);
            check.due(state + ": goods are 0 again", x.goods(0, 0, 0, 1, 1, 1), 0);
            check.due(state + ": on board", x.of(0, 7), 1);
        }
    }

    private static void promise2HowManyThereWere() {
        check.sentence("how many GOODS there were. BAD.");
        check.due("none", new ThrownOver().ship(1, 1), 0);
        check.due("one", State.ONE.made().ship(1, 1), 1);
        check.due("eight on board", State.LADEN.made().ship(1, 1), 8);
        check.due("eight THROWN", State.EMPTIED.made().ship(1, 1), 8);
        ThrownOver x = State.LADEN.made();
        check.due("a refused one", x.ship(100, 201), BAD);
        check.due("they stay", x.count(0), 8);
        x.ship(1, 1);
        check.due("none behind a ship", x.ship(1, 1), 0);
    }

    private static void promise2WhatStays() {
        check.sentence("(but for IMAGES, THE TEXT, THE FRACTION, STATUS)");
        ThrownOver x = State.FULLEST.made();
        long above = x.part(0);
        long below = x.part(1);
        int[] status = {x.status(0), x.status(1), x.status(2)};
        check.due("THE FRACTION is not as at first", above != 0 || below != 1, true);
        x.ship(0, 0);
        check.fraction("THE FRACTION", x, above, below);
        check.status("STATUS", x, status[0], status[1], status[2]);
        check.due("THE TEXT", x.count(6), 150);
        check.due("IMAGE 0", x.from(0), 1);
        check.due("IMAGE 0 has all on board", x.count(1), 8);
        check.due("IMAGE 1", x.from(1), 1);
        check.due("IMAGE 1 may undo", x.count(5), 5);
        check.due("THE TEXT can be read", x.read(), 9);
    }

    private static void promise3Full() {
        check.sentence("GOODS: their number. BAD; FULL: 8.");
        ThrownOver x = new ThrownOver();
        for (int k = 0; k < 8; k++) {
            check.due("goods", x.goods(5, 3, 2, 40, 60, 60), k);
        }
        check.due("a ninth", x.goods(5, 3, 2, 40, 60, 60), FULL);
        for (int k = 7; k >= 0; k--) {
            x.over(k);
        }
        check.due("a ninth, all THROWN", x.goods(0, 0, 0, 1, 0, 0), FULL);
        check.due("count(0)", x.count(0), 8);
        check.due("what may be undone stays", x.count(5), 8);
        check.status("FULL", x, 0, 0, 2);
    }

    private static void promise3RoomAgain() {
        check.sentence("GOODS: their number. BAD; FULL: 8.");
        ThrownOver x = State.LADEN.made();
        x.ship(1, 1);
        check.due("behind ship", x.goods(0, 0, 0, 1, 0, 0), 0);
        ThrownOver y = new ThrownOver();
        y.image(0);
        for (int k = 0; k < 8; k++) {
            y.goods(0, 0, 0, 1, 0, 0);
        }
        y.from(0);
        check.due("behind from", y.goods(0, 0, 0, 1, 0, 0), 0);
        ThrownOver z = new ThrownOver();
        Check.read(z, State.LONGEST_TEXT);
        check.due("behind a TEXT with eight", z.goods(0, 0, 0, 1, 0, 0), FULL);
        Check.read(z, "ship 1 2;");
        check.due("behind a TEXT with none", z.goods(0, 0, 0, 1, 0, 0), 0);
    }

    private static void promise4WhatWasTold() {
        check.sentence("What is TOLD of GOODS: what was. BAD.");
        ThrownOver x = new ThrownOver();
        x.goods(0, 0, 0, 1, 30, 29);
        check.due("the least", x.tells(0, 0), 29);
        check.due("the most", x.tells(0, 60), 0);
        check.due("again", x.tells(0, 60), 60);
        for (int t : new int[] {-1, 61, Integer.MIN_VALUE, Integer.MAX_VALUE}) {
            check.due("tells(0, " + t + ")", x.tells(0, t), BAD);
        }
        check.due("TOLD stays", x.of(0, 5), 60);
        check.status("tells", x, 4, 0, 0);
    }

    private static void promise4GoodsThatAreNot() {
        check.sentence("What is TOLD of GOODS: what was. BAD.");
        ThrownOver x = State.EMPTIED.made();
        check.due("the first, THROWN", x.tells(0, 1), 60);
        check.due("the last, THROWN", x.tells(7, 2), 4);
        for (int k : new int[] {-1, 8, Integer.MIN_VALUE, Integer.MAX_VALUE}) {
            check.due("tells(" + k + ", 0)", x.tells(k, 0), BAD);
        }
        ThrownOver y = State.ONE.made();
        check.due("tells(1, 0) of one", y.tells(1, 0), BAD);
    }

    private static void promise4LeavesAllElse() {
        check.sentence("What is TOLD of GOODS: what was. BAD.");
        for (State state : new State[] {State.ONE, State.LADEN, State.EMPTIED, State.SETTLED, State.FULLEST}) {
            ThrownOver x = state.made();
            int was = x.tells(0, 33);
            check.due(state + ": back", x.tells(0, was), 33);
            check.due(state + ": all as it was", Picture.take(x).equals(Picture.take(state.made())), true);
        }
    }

    private static void promise5Bytes() {
        check.sentence("A byte (0 .. 127) comes behind THE TEXT: how many it has.");
        ThrownOver x = new ThrownOver();
        check.due("type(0)", x.type(0), 1);
        check.due("type(127)", x.type(127), 2);
        for (int c : new int[] {-1, 128, 256 + 's', Integer.MIN_VALUE, Integer.MAX_VALUE}) {
            check.due("type(" + c + ")", x.type(c), BAD);
        }
        check.due("count(6)", x.count(6), 2);
        check.status("type", x, 5, 0, 0);
        check.due("the byte 0 begins no TOKEN", x.read(), -10);
    }

    private static void promise5Full() {
        check.sentence("a TEXT (150 bytes at most)");
        ThrownOver x = new ThrownOver();
        for (int i = 1; i <= 150; i++) {
            check.due("type " + i, x.type(State.LONGEST_TEXT.charAt(i - 1)), i);
        }
        check.due("a 151st", x.type(' '), FULL);
        check.due("a 151st that is BAD", x.type(128), BAD);
        check.due("count(6)", x.count(6), 150);
        check.status("type", x, 1, 0, 1);
        check.due("all 150 are read", x.read(), 9);
        check.due("clear()", x.clear(), 150);
        check.due("the first again", x.type('s'), 1);
    }

    private static void promise6HowManyItHad() {
        check.sentence("THE TEXT is empty: how many it had.");
        ThrownOver x = new ThrownOver();
        check.due("an empty one", x.clear(), 0);
        x.type(0);
        check.due("one byte", x.clear(), 1);
        check.due("it is empty", x.count(6), 0);
        check.due("read() of none", x.read(), -10);
        ThrownOver y = State.FULLEST.made();
        check.due("the fullest", y.clear(), 150);
        check.due("it is empty", y.clear(), 0);
        check.due("read() of none", y.read(), -10);
    }

    private static void promise6LeavesAllElse() {
        check.sentence("THE TEXT is empty: how many it had.");
        for (State state : State.values()) {
            ThrownOver x = state.made();
            int had = x.clear();
            if (had > 0) {
                Check.type(x, State.LONGEST_TEXT);
            }
            check.due(state + ": typed again", x.count(6), had);
            check.due(state + ": all as it was", Picture.take(x).equals(Picture.take(state.made())), true);
        }
    }
}
