/** Promises 8 to 14, and the terms that they need: each sentence that names a limit, in a method of its own. */
public final class StormEdgesTest {
    private static final int BAD = ThrownOver.BAD, NO = ThrownOver.NO;
    private static final int MIN = Integer.MIN_VALUE, MAX = Integer.MAX_VALUE;
    private static final Check check = new Check();

    /** What is told, then what is made good of kinds 0 to 5, then for what they bear. */
    private static final int[][] KINDS = {
        {0, 0, 0, 0, 0, 5, 0, 0, 0, 0, 0, 0, 3},
        {1, 1, 0, 1, 0, 5, 0, 1, 1, 0, 1, 0, 4},
        {2, 2, 0, 2, 1, 5, 0, 2, 2, 1, 2, 0, 5},
        {3, 3, 0, 3, 2, 5, 1, 3, 3, 1, 3, 0, 6},
        {4, 4, 0, 4, 3, 5, 1, 4, 4, 2, 4, 0, 7},
        {5, 5, 0, 5, 3, 5, 1, 5, 5, 2, 5, 0, 8},
        {6, 6, 0, 6, 4, 5, 2, 6, 6, 3, 6, 0, 9},
        {7, 7, 0, 7, 5, 5, 2, 7, 7, 3, 7, 0, 10},
        {8, 8, 0, 8, 6, 5, 3, 8, 8, 4, 8, 0, 11},
        {59, 59, 0, 59, 44, 5, 22, 59, 59, 29, 59, 0, 62},
        {60, 60, 0, 60, 45, 5, 22, 60, 60, 30, 60, 0, 63},
    };

    public static void main(String[] args) {
        kindsMakeGood();
        kindsBear();
        bearsSavedOrThrown();
        onTopAloneCanBeThrown();
        thrownOnesCoverNot();
        livesNoHeavier();
        stormLimits();
        theLossByTold();
        theWholeAtItsLimits();
        shareIs0IfTheWholeIs0();
        shareOfTheShip();
        netsAndTheShipsShareComeToNothing();
        undoAheadOfTheLast();
        undo8AtMost();
        undoBehindGoods();
        promise8WhatIsMadeGood();
        promise8Bad();
        promise8NotOnBoard();
        promise8NotOnTop();
        promise9HowManyAreOnBoard();
        promise9NoneMayBe();
        promise10Whats();
        promise10GoodsThatAreNot();
        promise11Lives();
        promise12Emptiest();
        promise12Fullest();
        promise12Bad();
        promise13Owners();
        promise14Owners();
        promise14BelowNothing();
        promise14AWholeOfNothing();
        check.end();
    }

    private static ThrownOver one(int kind, int told) {
        ThrownOver x = new ThrownOver();
        x.ship(0, 60);
        x.goods(kind, 0, 0, 1, 60 - told, told);
        return x;
    }

    private static void kindsMakeGood() {
        check.sentence("say what is MADE GOOD of worth t, if it is thrown");
        for (int[] row : KINDS) {
            for (int kind = 0; kind < 6; kind++) {
                ThrownOver x = one(kind, row[0]);
                String when = "kind " + kind + " told " + row[0];
                check.due(when + ": on board, THE LOSS", x.now(0), 0);
                check.due(when + ": over(0)", x.over(0), row[1 + kind]);
                check.due(when + ": THE LOSS", x.now(0), row[1 + kind]);
                x.undo();
                check.due(when + ": THE LOSS undone", x.now(0), 0);
            }
        }
    }

    private static void kindsBear() {
        check.sentence("0 GOODS: t; t. 1 DECK (under GOODS): 0; as GOODS. 2 JEWELS (under GOODS): as GOODS; half (cut)"
            + " of GOODS. 3 SPOILED (under GOODS): three quarters (cut) of GOODS; as GOODS. 4 MAST (under DECK): 5 more"
            + " than DECK; 0. 5 HABIT (under SPOILED): half (cut) of SPOILED; as SPOILED, 3 more.");
        for (int[] row : KINDS) {
            for (int kind = 0; kind < 6; kind++) {
                check.due("THE WHOLE of kind " + kind + " told " + row[0], one(kind, row[0]).now(1), row[7 + kind]);
            }
        }
    }

    private static void bearsSavedOrThrown() {
        check.sentence("for what it BEARS, of worth t, saved or thrown");
        for (int[] row : KINDS) {
            for (int kind = 0; kind < 6; kind++) {
                ThrownOver x = one(kind, row[0]);
                x.over(0);
                check.due("THE WHOLE of thrown kind " + kind + " told " + row[0], x.now(1), row[7 + kind]);
            }
        }
    }

    private static void onTopAloneCanBeThrown() {
        check.sentence("THROWN: GOODS on board that are on top (of those on board in the HOLD) alone can be.");
        ThrownOver x = State.LADEN.made();
        int[] can = {0, 0, 0, 0, 0, 1, 1, 1};
        for (int k = 0; k < 8; k++) {
            check.due("of(" + k + ", 7)", x.of(k, 7), can[k]);
            check.due("over(" + k + ")", x.over(k) == NO ? 0 : 1, can[k]);
        }
        int[] then = {0, 0, 1, 1, 1, 0, 0, 0};
        for (int k = 0; k < 8; k++) {
            check.due("of(" + k + ", 7) then", x.of(k, 7), then[k]);
        }
    }

    private static void thrownOnesCoverNot() {
        check.sentence("(of those on board in the HOLD)");
        ThrownOver x = new ThrownOver();
        for (int k = 0; k < 8; k++) {
            x.goods(0, 0, 2, 1, 1, k);
        }
        for (int k = 7; k >= 0; k--) {
            check.due("over(" + k + ")", x.over(k), k);
            check.due("of(" + k + ", 7) overboard", x.of(k, 7), 0);
            if (k > 0) {
                check.due("of(" + (k - 1) + ", 7) uncovered", x.of(k - 1, 7), 1);
            }
        }
    }

    private static void livesNoHeavier() {
        check.sentence("she LIVES, if all on board are together no HEAVIER than she CARRIES less f.");
        ThrownOver x = new ThrownOver();
        x.ship(0, 100);
        x.goods(0, 0, 0, 40, 0, 0);
        x.goods(0, 0, 1, 40, 0, 0);
        check.due("80 by 81", x.lives(19), 1);
        check.due("80 by 80", x.lives(20), 1);
        check.due("80 by 79", x.lives(21), 0);
        check.due("80 by less than nothing", x.lives(101), 0);
        x.over(0);
        check.due("40 by 40", x.lives(60), 1);
        check.due("40 by 39", x.lives(61), 0);
        x.over(1);
        check.due("nothing by nothing", x.lives(100), 1);
        check.due("nothing by less than nothing", x.lives(101), 0);
        x.undo();
        check.due("40 by 39, undone", x.lives(61), 0);
    }

    private static void stormLimits() {
        check.sentence("A STORM of f (0 .. 200)");
        ThrownOver x = new ThrownOver();
        x.ship(0, 200);
        x.goods(0, 0, 0, 1, 1, 1);
        for (int f : new int[] {-1, 201, MIN, MAX}) {
            check.due("lives(" + f + ")", x.lives(f), BAD);
            check.due("needful(" + f + ")", x.needful(f), BAD);
            check.due("stow(0, " + f + ")", x.stow(0, f), BAD);
            check.due("least(" + f + ", 0)", x.least(f, 0), -10);
        }
        check.status("storms that are none", x, 16, 0, 0);
        check.due("lives(0)", x.lives(0), 1);
        check.due("lives(200)", x.lives(200), 0);
        check.due("needful(0)", x.needful(0), 0);
        check.due("needful(200)", x.needful(200), 0);
        check.due("stow(0, 0)", x.stow(0, 0), 0);
        check.due("stow(0, 200)", x.stow(0, 200), ThrownOver.NONE);
        check.due("least(0, -2)", x.least(0, -2), 0);
        check.due("least(200, -2)", x.least(200, -2), 1);
        check.status("storms", x, 16, 0, 0);
    }

    private static void theLossByTold() {
        check.sentence("THE LOSS: what is MADE GOOD of all thrown, by TOLD.");
        ThrownOver x = new ThrownOver();
        for (int k = 0; k < 8; k++) {
            x.goods(0, 0, 0, 1, 0, 60);
        }
        check.due("none thrown", x.now(0), 0);
        for (int k = 7; k >= 0; k--) {
            x.over(k);
            check.due("thrown from " + k, x.now(0), 60 * (8 - k));
        }
        x.tells(0, 0);
        check.due("told anew", x.now(0), 420);
    }

    private static void theWholeAtItsLimits() {
        check.sentence("THE WHOLE: for what all GOODS BEAR (by TOLD) and THE SHIP's WORTH.");
        ThrownOver x = new ThrownOver();
        x.ship(0, 0);
        check.due("nothing", x.now(1), 0);
        x.goods(4, 0, 0, 40, 60, 60);
        check.due("a mast bears for nothing", x.now(1), 0);
        x.ship(99, 0);
        for (int k = 0; k < 8; k++) {
            x.goods(5, 0, 0, 1, 0, 60);
        }
        check.due("the most", x.now(1), 99 + 8 * 63);
        x.over(7);
        check.due("thrown ones bear, too", x.now(1), 99 + 8 * 63);
        x.tells(7, 0);
        check.due("by TOLD", x.now(1), 99 + 7 * 63 + 3);
    }

    private static void shareIs0IfTheWholeIs0() {
        check.sentence("(0, if THE WHOLE is 0); THE SHIP's likewise.");
        ThrownOver x = new ThrownOver();
        x.ship(0, 60);
        x.goods(4, 1, 0, 1, 60, 60);
        x.over(0);
        check.due("THE LOSS", x.now(0), 5);
        check.due("THE WHOLE", x.now(1), 0);
        for (int owner = 0; owner <= 4; owner++) {
            x.odds(58);
            check.due("share(" + owner + ")", x.share(owner), 1);
            check.fraction("share(" + owner + ")", x, 0, 1);
        }
        check.status("share", x, 0, 0, 0);
    }

    private static void shareOfTheShip() {
        check.sentence("An OWNER's SHARE: THE LOSS times that for which the own GOODS BEAR by THE WHOLE");
        ThrownOver x = new ThrownOver();
        x.ship(99, 60);
        x.goods(0, 3, 0, 1, 0, 60);
        x.over(0);
        x.share(3);
        check.fraction("60 times 60 by 159", x, 1200, 53);
        x.share(4);
        check.fraction("60 times 99 by 159", x, 1980, 53);
        x.share(0);
        check.fraction("an OWNER of nothing", x, 0, 1);
        x.ship(0, 60);
        x.goods(0, 3, 0, 1, 0, 60);
        x.over(0);
        x.share(4);
        check.fraction("a SHIP worth nothing", x, 0, 1);
        x.share(3);
        check.fraction("all is borne by one", x, 60, 1);
    }

    private static void netsAndTheShipsShareComeToNothing() {
        check.sentence("NET: SHARE less what is MADE GOOD of the own thrown.");
        ThrownOver x = State.FULLEST.made();
        int whole = x.now(1);
        long sum = 0;
        for (int owner = 0; owner < 4; owner++) {
            x.net(owner);
            check.due("whole by below", whole % x.part(1), 0);
            sum += x.part(0) * (whole / x.part(1));
        }
        x.share(4);
        sum += x.part(0) * (whole / x.part(1));
        check.due("what is borne is what is made good", sum, 0);
    }

    private static void undoAheadOfTheLast() {
        check.sentence("UNDO: what is on board as ahead of the last THROWN");
        ThrownOver x = State.LADEN.made();
        x.over(6);
        x.over(3);
        x.over(7);
        check.due("undo()", x.undo(), 6);
        check.due("the last is back", x.of(7, 7), 1);
        check.due("the one ahead is not", x.of(3, 6), 0);
        check.due("undo()", x.undo(), 7);
        check.due("it is back", x.of(3, 7), 1);
        check.due("the first is not", x.of(6, 6), 0);
        check.due("undo()", x.undo(), 8);
        check.due("it is on top again", x.of(6, 7), 1);
        check.due("it covers again", x.of(3, 7), 0);
        check.due("what was undone can be THROWN again", x.over(6), 12);
    }

    private static void undo8AtMost() {
        check.sentence("(8 at most; behind GOODS that come none may be)");
        ThrownOver x = State.EMPTIED.made();
        check.due("eight", x.count(5), 8);
        for (int round = 0; round < 3; round++) {
            for (int i = 0; i < 3; i++) {
                check.due("undo()", x.undo(), i + 1);
            }
            check.due("five", x.count(5), 5);
            for (int k = 2; k >= 0; k--) {
                x.over(k);
            }
            check.due("eight again", x.count(5), 8);
        }
        for (int i = 1; i <= 8; i++) {
            check.due("undo " + i, x.undo(), i);
            check.due("left", x.count(5), 8 - i);
        }
        check.due("a ninth", x.undo(), NO);
    }

    private static void undoBehindGoods() {
        check.sentence("behind GOODS that come none may be");
        ThrownOver x = State.ONE.made();
        x.over(0);
        check.due("goods that are refused", x.goods(0, 0, 0, 0, 0, 0), BAD);
        check.due("it may still be", x.count(5), 1);
        x.goods(0, 0, 0, 1, 0, 0);
        check.due("none may be", x.count(5), 0);
        check.due("undo()", x.undo(), NO);
        check.due("the thrown one stays thrown", x.of(0, 6), 0);
        x.over(1);
        check.due("the later one may be", x.undo(), 1);
        check.due("the first one not", x.undo(), NO);
        check.status("undo", x, 1, 2, 0);
    }

    private static void promise8WhatIsMadeGood() {
        check.sentence("GOODS are THROWN: what is MADE GOOD of them (by TOLD).");
        ThrownOver x = State.LADEN.made();
        int[] due = {60, 0, 44, 27, 5, 7, 12, 0};
        for (int k = 7; k >= 0; k--) {
            check.due("over(" + k + ")", x.over(k), due[k]);
        }
        check.due("none is on board", x.count(1), 0);
        check.status("over", x, 0, 0, 0);
    }

    private static void promise8Bad() {
        check.sentence("BAD; NO: not on board, not on top.");
        ThrownOver x = State.LADEN.made();
        for (int k : new int[] {-1, 8, 32 + 7, 256 + 7, MIN, MIN + 7, MAX}) {
            check.due("over(" + k + ")", x.over(k), BAD);
        }
        check.due("all on board", x.count(1), 8);
        check.status("over", x, 7, 0, 0);
        ThrownOver y = State.ONE.made();
        check.due("over(1) of one", y.over(1), BAD);
        check.due("over(0) of one", y.over(0), 8);
    }

    private static void promise8NotOnBoard() {
        check.sentence("NO: not on board, not on top.");
        ThrownOver x = State.EMPTIED.made();
        for (int k = 0; k < 8; k++) {
            check.due("over(" + k + ")", x.over(k), NO);
        }
        check.due("what may be undone", x.count(5), 8);
        check.status("over", x, 0, 8, 0);
    }

    private static void promise8NotOnTop() {
        check.sentence("NO: not on board, not on top.");
        ThrownOver x = State.LADEN.made();
        for (int k = 0; k < 5; k++) {
            check.due("over(" + k + ")", x.over(k), NO);
        }
        check.due("all on board", x.count(1), 8);
        check.due("nothing may be undone", x.count(5), 0);
        check.status("over", x, 0, 5, 0);
    }

    private static void promise9HowManyAreOnBoard() {
        check.sentence("UNDO: how many GOODS are on board then.");
        ThrownOver x = State.ONE.made();
        x.over(0);
        check.due("one", x.undo(), 1);
        ThrownOver y = State.EMPTIED.made();
        for (int i = 1; i <= 8; i++) {
            check.due("undo " + i, y.undo(), i);
            check.due("count(1)", y.count(1), i);
        }
    }

    private static void promise9NoneMayBe() {
        check.sentence("NO: none may be.");
        for (State state : new State[] {State.NEW, State.BARE, State.ONE, State.LADEN, State.SETTLED}) {
            ThrownOver x = state.made();
            check.due(state + ": undo()", x.undo(), NO);
            check.due(state + ": undo() again", x.undo(), NO);
            check.status(state + ": undo", x, 0, 2, 0);
        }
        ThrownOver x = State.EMPTIED.made();
        x.ship(1, 1);
        check.due("behind ship", x.undo(), NO);
    }

    private static void promise10Whats() {
        check.sentence("KIND (0), OWNER (1), HOLD (2), HEAVY (3), WORTH (4), TOLD (5), on board (6; 1, 0),"
            + " can be THROWN (7; 1, 0). BAD.");
        ThrownOver x = new ThrownOver();
        x.goods(5, 3, 2, 40, 60, 59);
        int[] due = {5, 3, 2, 40, 60, 59, 1, 1};
        for (int what = 0; what < 8; what++) {
            check.due("of(0, " + what + ")", x.of(0, what), due[what]);
        }
        for (int what : new int[] {-1, 8, MIN, MAX}) {
            check.due("of(0, " + what + ")", x.of(0, what), BAD);
        }
        x.over(0);
        check.due("of(0, 6) overboard", x.of(0, 6), 0);
        check.due("of(0, 7) overboard", x.of(0, 7), 0);
        check.due("of(0, 3) overboard", x.of(0, 3), 40);
        check.status("of", x, 4, 0, 0);
    }

    private static void promise10GoodsThatAreNot() {
        check.sentence("`int of(int k, int what)`: Of GOODS:");
        ThrownOver x = State.LADEN.made();
        check.due("of(7, 3)", x.of(7, 3), 5);
        for (int k : new int[] {-1, 8, MIN, MAX}) {
            for (int what = 0; what < 8; what++) {
                check.due("of(" + k + ", " + what + ")", x.of(k, what), BAD);
            }
        }
        check.status("of", x, 32, 0, 0);
        ThrownOver y = State.ONE.made();
        check.due("of(1, 0) of one", y.of(1, 0), BAD);
    }

    private static void promise11Lives() {
        check.sentence("Whether she LIVES in a STORM (1, 0). BAD.");
        ThrownOver x = new ThrownOver();
        for (int f = 0; f <= 200; f++) {
            check.due("lives(" + f + ")", x.lives(f), f <= 60 ? 1 : 0);
        }
        check.due("lives(-1)", x.lives(-1), BAD);
        check.due("lives(201)", x.lives(201), BAD);
        check.due("lives(MIN)", x.lives(MIN), BAD);
        check.due("lives(MAX)", x.lives(MAX), BAD);
        check.status("lives", x, 4, 0, 0);
    }

    private static void promise12Emptiest() {
        check.sentence("THE LOSS (0), THE WHOLE (1), how HEAVY all on board are (2),"
            + " what is WORTH all on board (3; true). BAD.");
        int[] due = {0, 20, 0, 0};
        ThrownOver x = new ThrownOver();
        ThrownOver y = State.BARE.made();
        for (int what = 0; what < 4; what++) {
            check.due("now(" + what + ")", x.now(what), due[what]);
            check.due("bare: now(" + what + ")", y.now(what), 0);
        }
    }

    private static void promise12Fullest() {
        check.sentence("how HEAVY all on board are (2), what is WORTH all on board (3; true)");
        ThrownOver x = new ThrownOver();
        for (int k = 0; k < 8; k++) {
            x.goods(0, 0, 0, 40, 60, 1);
        }
        check.due("now(2)", x.now(2), 320);
        check.due("now(3)", x.now(3), 480);
        for (int k = 7; k >= 0; k--) {
            x.over(k);
            check.due("now(2) down from " + k, x.now(2), 40 * k);
            check.due("now(3) down from " + k, x.now(3), 60 * k);
        }
    }

    private static void promise12Bad() {
        check.sentence("what is WORTH all on board (3; true). BAD.");
        ThrownOver x = State.LADEN.made();
        for (int what : new int[] {-1, 4, MIN, MAX}) {
            check.due("now(" + what + ")", x.now(what), BAD);
        }
        check.status("now", x, 4, 0, 0);
    }

    private static void promise13Owners() {
        check.sentence("SHARE of an OWNER (4: THE SHIP) is THE FRACTION: 1. BAD.");
        ThrownOver x = State.EMPTIED.made();
        x.odds(58);
        for (int owner : new int[] {-1, 5, MIN, MAX}) {
            check.due("share(" + owner + ")", x.share(owner), BAD);
            check.fraction("it stays", x, 3, 10);
        }
        check.due("share(0)", x.share(0), 1);
        // THE LOSS 155; OWNER 0 has goods 0 (bears 60) and 4 (0); THE WHOLE 20 + 60 + 52 + 22 + 36 + 0 + 23 + 12 + 4.
        check.fraction("share(0)", x, 9300, 229);
        check.due("share(3)", x.share(3), 1);
        check.fraction("share(3)", x, 155 * 40, 229);
        check.due("share(4)", x.share(4), 1);
        check.fraction("share(4)", x, 155 * 20, 229);
        check.status("share", x, 4, 0, 0);
    }

    private static void promise14Owners() {
        check.sentence("NET of an OWNER is THE FRACTION (above may be below 0): 1. BAD.");
        ThrownOver x = State.EMPTIED.made();
        x.odds(58);
        for (int owner : new int[] {-1, 4, 5, MIN, MAX}) {
            check.due("net(" + owner + ")", x.net(owner), BAD);
            check.fraction("it stays", x, 3, 10);
        }
        check.due("net(0)", x.net(0), 1);
        check.fraction("net(0): 9300 by 229 less 65", x, 9300 - 65 * 229, 229);
        check.due("net(3)", x.net(3), 1);
        check.fraction("net(3): 6200 by 229 less 27", x, 6200 - 27 * 229, 229);
        check.status("net", x, 5, 0, 0);
    }

    private static void promise14BelowNothing() {
        check.sentence("(above may be below 0)");
        ThrownOver x = new ThrownOver();
        x.ship(60, 60);
        x.goods(0, 2, 0, 1, 0, 60);
        x.over(0);
        x.net(2);
        check.fraction("30 less 60", x, -30, 1);
        x.ship(1, 60);
        x.goods(0, 2, 0, 1, 0, 1);
        x.over(0);
        x.net(2);
        check.fraction("a half less 1", x, -1, 2);
        x.undo();
        x.net(2);
        check.fraction("no LOSS", x, 0, 1);
    }

    private static void promise14AWholeOfNothing() {
        check.sentence("(0, if THE WHOLE is 0)");
        ThrownOver x = new ThrownOver();
        x.ship(0, 60);
        for (int k = 0; k < 8; k++) {
            x.goods(4, k / 4, 0, 1, 0, 60);
        }
        for (int k = 7; k >= 0; k--) {
            x.over(k);
        }
        x.net(0);
        check.fraction("net(0): four masts", x, -20, 1);
        x.net(1);
        check.fraction("net(1): four masts", x, -20, 1);
        x.net(2);
        check.fraction("net(2): none", x, 0, 1);
    }
}
