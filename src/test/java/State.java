/** Where calls are tried: from the emptiest to the fullest, each made by at most 200 calls. */
enum State {
    NEW,
    /** She is worth nothing and carries nothing. */
    BARE,
    /** One goods on board; all else as at first. */
    ONE,
    /** Eight goods on board, in all holds; nothing to undo. */
    LADEN,
    /** Eight goods overboard; all may be undone. */
    EMPTIED,
    /** Thrown goods behind which others came: nothing to undo. */
    SETTLED,
    /** Eight goods, six seen, 150 bytes, two images, a fraction, some of each refusal. */
    FULLEST;

    static final String LONGEST_TEXT = "ship1 2;" + "goods0 0 0 1 0 0;".repeat(8) + "      ";

    ThrownOver made() {
        ThrownOver x = new ThrownOver();
        switch (this) {
            case NEW: break;
            case BARE: x.ship(0, 0); break;
            case ONE: x.goods(3, 2, 1, 7, 9, 11); break;
            case LADEN: lade(x); break;
            case EMPTIED: lade(x); throwDown(x, 0); break;
            case SETTLED: settle(x); break;
            default: fill(x); break;
        }
        return x;
    }

    private static void lade(ThrownOver x) {
        for (int k = 0; k < 8; k++) {
            x.goods(k % 6, k % 4, k % 3, 40 - 5 * k, 7 * k, 60 - 8 * k);
        }
    }

    /** All goods from the last down to number k. */
    private static void throwDown(ThrownOver x, int k) {
        for (int i = 7; i >= k; i--) {
            x.over(i);
        }
    }

    private static void settle(ThrownOver x) {
        x.goods(0, 0, 0, 10, 10, 10);
        x.goods(2, 1, 1, 20, 50, 40);
        x.over(0);
        x.goods(5, 3, 2, 30, 20, 30);
    }

    private static void fill(ThrownOver x) {
        x.ship(99, 200);
        lade(x);
        x.image(0);
        throwDown(x, 3);
        x.image(1);
        x.undo();
        for (int i = 0; i < 6; i++) {
            x.seen(1 + i, 60 - i, i % 4);
        }
        Check.type(x, LONGEST_TEXT);
        x.net(1);
        x.over(8);
        x.over(7);
        x.goods(0, 0, 0, 1, 0, 0);
    }

    int goods() {
        return made().count(0);
    }
}
