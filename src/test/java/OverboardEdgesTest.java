/** Promises 15 to 19, and the terms that they need: each sentence that names a limit, in a method of its own. */
public final class OverboardEdgesTest {
    private static final int BAD = ThrownOver.BAD, NO = ThrownOver.NO, NONE = ThrownOver.NONE;
    private static final int MIN = Integer.MIN_VALUE, MAX = Integer.MAX_VALUE;
    private static final int WHICH = -2, HOW_MUCH = -1;
    private static final Check check = new Check();

    public static void main(String[] args) {
        leastOfAnEmptyShip();
        leastIsEmptyWhileSheLives();
        leastJustLightEnough();
        leastOfAll();
        leastOfNone();
        leastCanBeThrown();
        leastOfThoseOnBoard();
        leastByTrueWorth();
        leastFewestGoods();
        leastBits();
        leastInOrder();
        promise15NotSoMany();
        promise15Bad();
        promise15AfterItSheLives();
        needfulOfNone();
        needfulAtTheLimit();
        needfulAll();
        needfulUnderOthers();
        promise16Bad();
        stowTheFirstSuch();
        stowEachAnswer();
        stowOnTopOfAll();
        stowNone();
        promise17Bad();
        promise17NotOnBoard();
        tellOfLikeOnesTheLeast();
        tellAtBothEnds();
        tellBetween();
        tellAllOthersAsTold();
        promise18Bad();
        markedAtItsLimits();
        markedAWholeOfNothing();
        promise19Bad();
        check.end();
    }

    private static void leastOfAnEmptyShip() {
        check.sentence("sets of GOODS on board that can be THROWN one behind the other, behind which she LIVES");
        ThrownOver x = new ThrownOver();
        check.due("which, at the limit", x.least(60, WHICH), 0);
        check.due("how much, at the limit", x.least(60, HOW_MUCH), 0);
        check.due("the first, at the limit", x.least(60, 0), -5);
        check.due("which, beyond", x.least(61, WHICH), NONE);
        check.due("how much, beyond", x.least(61, HOW_MUCH), NONE);
        check.due("the first, beyond", x.least(61, 0), NONE);
        check.due("which, the greatest STORM", x.least(200, WHICH), NONE);
        x.ship(0, 200);
        check.due("which, the greatest STORM and CARRIES", x.least(200, WHICH), 0);
    }

    private static void leastIsEmptyWhileSheLives() {
        check.sentence("that of which least is lost (WORTH, true)");
        ThrownOver x = new ThrownOver();
        x.goods(0, 0, 0, 20, 0, 0);
        x.goods(0, 0, 1, 20, 0, 0);
        check.due("40 by 60", x.least(0, WHICH), 0);
        check.due("40 by 40", x.least(20, WHICH), 0);
        check.due("40 by 40: nothing is lost", x.least(20, HOW_MUCH), 0);
        check.due("40 by 39", x.least(21, WHICH), 1);
    }

    private static void leastJustLightEnough() {
        check.sentence("behind which she LIVES");
        ThrownOver x = new ThrownOver();
        x.ship(0, 60);
        x.goods(0, 0, 0, 10, 1, 0);
        x.goods(0, 0, 1, 11, 2, 0);
        x.goods(0, 0, 2, 40, 60, 0);
        check.due("1 must go", x.least(0, WHICH), 1);
        check.due("10 must go", x.least(9, WHICH), 1);
        check.due("11 must go", x.least(10, WHICH), 2);
        check.due("12 must go", x.least(11, WHICH), 3);
        check.due("21 must go", x.least(20, WHICH), 3);
        check.due("22 must go", x.least(21, WHICH), 4);
        check.due("40 must go", x.least(39, WHICH), 4);
        check.due("41 must go", x.least(40, WHICH), 5);
        check.due("41 must go: how much", x.least(40, HOW_MUCH), 61);
        check.due("51 must go", x.least(50, WHICH), 6);
        check.due("52 must go", x.least(51, WHICH), 7);
    }

    private static void leastOfAll() {
        check.sentence("which, how much; the i-th to be THROWN");
        for (int hold = 0; hold < 3; hold++) {
            ThrownOver x = new ThrownOver();
            x.ship(0, 200);
            for (int k = 0; k < 8; k++) {
                x.goods(0, 0, hold, 25, 60, 0);
            }
            for (int f = 0; f <= 200; f++) {
                int must = (f + 24) / 25;
                check.due("hold " + hold + ": " + must + " must go", x.least(f, WHICH), 255 & -1 << 8 - must);
            }
            check.due("how much", x.least(200, HOW_MUCH), 480);
            for (int i = 0; i < 8; i++) {
                check.due("the " + i + "-th", x.least(200, i), 7 - i);
            }
            check.due("a ninth", x.least(200, 8), -5);
        }
    }

    private static void leastOfNone() {
        check.sentence("LEAST: which (i = -2; bits), how much (i = NONE), the i-th. -5: not so many. NONE: none.");
        ThrownOver x = State.LADEN.made();
        check.due("the last that there is", x.least(60, WHICH), 255);
        for (int f : new int[] {61, 200}) {
            for (int i : new int[] {WHICH, HOW_MUCH, 0, 7, 8, MAX}) {
                check.due("least(" + f + ", " + i + ")", x.least(f, i), NONE);
            }
        }
        check.status("none", x, 0, 0, 0);
    }

    private static void leastCanBeThrown() {
        check.sentence("sets of GOODS on board that can be THROWN one behind the other");
        for (int hold = 0; hold < 3; hold++) {
            ThrownOver x = new ThrownOver();
            x.ship(0, 60);
            x.goods(0, 0, hold, 20, 0, 0);
            x.goods(0, 0, hold, 1, 60, 0);
            x.goods(0, 0, (hold + 1) % 3, 40, 59, 0);
            check.due("hold " + hold + ": what is covered costs more", x.least(0, WHICH), 4);
            check.due("hold " + hold + ": the dear one alone is light", x.least(1, WHICH), 4);
            check.due("hold " + hold + ": how much", x.least(1, HOW_MUCH), 59);
            x.over(1);
            check.due("hold " + hold + ": uncovered", x.least(0, WHICH), 0);
            check.due("hold " + hold + ": uncovered, a storm", x.least(1, WHICH), 1);
        }
    }

    private static void leastOfThoseOnBoard() {
        check.sentence("sets of GOODS on board");
        ThrownOver x = State.EMPTIED.made();
        check.due("none on board", x.least(60, WHICH), 0);
        check.due("none on board, the first", x.least(60, 0), -5);
        check.due("none on board, beyond", x.least(61, WHICH), NONE);
        x.undo();
        check.due("one on board", x.least(60, WHICH), 1);
        check.due("one on board, the first", x.least(60, 0), 0);
        check.due("one on board, a second", x.least(60, 1), -5);
    }

    private static void leastByTrueWorth() {
        check.sentence("that of which least is lost (WORTH, true)");
        ThrownOver x = new ThrownOver();
        x.ship(0, 40);
        x.goods(0, 0, 0, 40, 60, 0);
        x.goods(0, 0, 1, 40, 59, 60);
        check.due("which", x.least(0, WHICH), 2);
        check.due("how much", x.least(0, HOW_MUCH), 59);
        x.tells(1, 0);
        x.tells(0, 60);
        check.due("which, told anew", x.least(0, WHICH), 2);
        x.ship(0, 40);
        x.goods(1, 0, 0, 40, 5, 0);
        x.goods(4, 0, 1, 40, 4, 0);
        check.due("KINDS count not", x.least(0, WHICH), 2);
    }

    private static void leastFewestGoods() {
        check.sentence("of like ones fewest GOODS, then the least bits");
        ThrownOver x = new ThrownOver();
        x.ship(0, 40);
        x.goods(0, 0, 0, 10, 10, 0);
        x.goods(0, 0, 1, 10, 10, 0);
        x.goods(0, 0, 2, 20, 20, 0);
        check.due("one of 20 ahead of two of 10", x.least(20, WHICH), 4);
        check.due("the first of the small ones", x.least(10, WHICH), 1);
        x.ship(0, 40);
        x.goods(0, 0, 0, 30, 0, 0);
        x.goods(0, 0, 0, 30, 0, 0);
        x.goods(0, 0, 1, 40, 0, 0);
        check.due("nothing is worth anything: two do", x.least(10, WHICH), 6);
        check.due("nothing is worth anything: the first two", x.least(0, WHICH), 3);
    }

    private static void leastBits() {
        check.sentence("then the least bits");
        ThrownOver x = new ThrownOver();
        x.ship(0, 70);
        int[] holds = {2, 1, 0, 2, 1, 0, 2, 1};
        for (int k = 0; k < 8; k++) {
            x.goods(0, 0, holds[k], 10, 5, 0);
        }
        check.due("one of the tops 5, 6, 7", x.least(0, WHICH), 32);
        check.due("two: 2 and 5 ahead of 5 and 6", x.least(10, WHICH), 36);
        check.due("three: 0, 3, 6 ahead of 2, 5, 6", x.least(20, WHICH), 73);
        x.over(5);
        check.due("one of the tops 2, 6, 7", x.least(10, WHICH), 4);
    }

    private static void leastInOrder() {
        check.sentence("the i-th to be THROWN (of those that can be next, the least number first)");
        ThrownOver x = new ThrownOver();
        x.ship(0, 8);
        int[] holds = {0, 1, 1, 0, 2, 0, 2, 1};
        for (int k = 0; k < 8; k++) {
            x.goods(0, 0, holds[k], 1, 1, 0);
        }
        int[] due = {5, 3, 0, 6, 4, 7, 2, 1};
        for (int i = 0; i < 8; i++) {
            check.due("the " + i + "-th", x.least(8, i), due[i]);
        }
        for (int i = 0; i < 8; i++) {
            check.due("it can be THROWN: " + i, x.over(due[i]), 0);
        }
    }

    private static void promise15NotSoMany() {
        check.sentence("-5: not so many.");
        ThrownOver x = State.ONE.made();
        check.due("the first of one", x.least(60, 0), 0);
        check.due("a second of one", x.least(60, 1), -5);
        check.due("MAX of one", x.least(60, MAX), -5);
        check.due("32 of one", x.least(60, 32), -5);
        check.due("the first of an empty one", x.least(0, 0), -5);
        check.due("MAX of an empty one", x.least(0, MAX), -5);
        check.status("not so many", x, 0, 0, 0);
    }

    private static void promise15Bad() {
        check.sentence("NONE: none. BAD: -10.");
        ThrownOver x = State.LADEN.made();
        check.due("i = -3", x.least(0, -3), -10);
        check.due("i = MIN", x.least(0, MIN), -10);
        check.due("f = -1", x.least(-1, -2), -10);
        check.due("f = 201", x.least(201, -2), -10);
        check.due("f = MIN", x.least(MIN, -1), -10);
        check.due("f = MAX", x.least(MAX, 0), -10);
        check.due("both", x.least(201, -3), -10);
        check.due("i = -3 where there is none", x.least(200, -3), -10);
        check.status("they count as BAD", x, 8, 0, 0);
    }

    private static void promise15AfterItSheLives() {
        check.sentence("sets of GOODS on board that can be THROWN one behind the other, behind which she LIVES");
        for (int f = 0; f <= 60; f++) {
            ThrownOver x = State.LADEN.made();
            int worth = x.now(3);
            int much = x.least(f, HOW_MUCH);
            int which = x.least(f, WHICH);
            int[] order = new int[Integer.bitCount(which)];
            for (int i = 0; i < order.length; i++) {
                order[i] = x.least(f, i);
            }
            for (int k : order) {
                check.due("storm " + f + ": " + k + " is in it", which >> k & 1, 1);
                check.due("storm " + f + ": over(" + k + ")", x.over(k) >= 0, true);
            }
            check.due("storm " + f + ": lives", x.lives(f), 1);
            check.due("storm " + f + ": lost", worth - x.now(3), much);
            check.due("storm " + f + ": no more must go", x.least(f, WHICH), 0);
        }
    }

    private static void needfulOfNone() {
        check.sentence("NEEDFUL in a STORM of f: GOODS THROWN (bits)");
        for (State state : new State[] {State.NEW, State.BARE, State.ONE, State.LADEN}) {
            ThrownOver x = state.made();
            check.due(state + ": needful(0)", x.needful(0), 0);
            check.due(state + ": needful(200)", x.needful(200), 0);
        }
    }

    private static void needfulAtTheLimit() {
        check.sentence("without each of which, alone (it were still on board), she would not LIVE");
        ThrownOver x = new ThrownOver();
        x.ship(0, 100);
        x.goods(0, 0, 0, 40, 0, 0);
        x.goods(0, 0, 1, 10, 0, 0);
        x.goods(0, 0, 2, 20, 0, 0);
        x.over(1);
        x.over(2);
        check.due("60 by 60", x.needful(40), 0);
        check.due("60 by 59: the heavier", x.needful(41), 4);
        check.due("50 by 50: the lighter not", x.needful(50), 4);
        check.due("50 by 49: both", x.needful(51), 6);
        check.due("she does not live anyhow: both", x.needful(61), 6);
        check.due("the greatest STORM", x.needful(200), 6);
        check.due("the least STORM", x.needful(0), 0);
    }

    private static void needfulAll() {
        check.sentence("GOODS THROWN (bits) without each of which");
        ThrownOver x = State.EMPTIED.made();
        check.due("needful(60)", x.needful(60), 255);
        check.due("needful(56): the last is 5 heavy", x.needful(56), 255);
        check.due("needful(55)", x.needful(55), 127);
        check.due("needful(20): 40 is as much as she carries", x.needful(20), 0);
        check.due("needful(21)", x.needful(21), 1);
    }

    private static void needfulUnderOthers() {
        check.sentence("alone (it were still on board)");
        ThrownOver x = new ThrownOver();
        x.ship(0, 40);
        x.goods(0, 0, 0, 40, 0, 0);
        x.goods(0, 0, 0, 1, 0, 0);
        x.goods(0, 0, 0, 1, 0, 0);
        for (int k = 2; k >= 0; k--) {
            x.over(k);
        }
        check.due("needful(1): the one that lay under", x.needful(1), 1);
        check.due("needful(40)", x.needful(40), 7);
        check.due("needful(39)", x.needful(39), 1);
    }

    private static void promise16Bad() {
        check.sentence("NEEDFUL, as bits. BAD.");
        ThrownOver x = State.EMPTIED.made();
        for (int f : new int[] {-1, 201, MIN, MAX}) {
            check.due("needful(" + f + ")", x.needful(f), BAD);
        }
        check.status("needful", x, 4, 0, 0);
    }

    private static void stowTheFirstSuch() {
        check.sentence("the first such (3 the last); none");
        for (State state : new State[] {State.ONE, State.SETTLED}) {
            ThrownOver x = state.made();
            check.due(state + ": no STORM takes anything", x.stow(state.goods() - 1, 0), 0);
        }
        ThrownOver y = new ThrownOver();
        y.ship(0, 320 - 120);
        for (int k = 0; k < 8; k++) {
            y.goods(0, 0, k % 3, 25, 60, 0);
        }
        for (int k = 0; k < 8; k++) {
            check.due("all live: stow(" + k + ", 0)", y.stow(k, 0), 0);
        }
    }

    /** Cheap heavy goods lie in all holds but one: on top of those, goods 3 would have to go first. */
    private static void stowEachAnswer() {
        check.sentence("the HOLD (0 .. 2) in which GOODS k on board should lie on top of all, or as they lie (3)");
        for (int safe = 0; safe < 3; safe++) {
            for (int lies = 0; lies < 3; lies++) {
                ThrownOver x = new ThrownOver();
                x.ship(0, 41);
                x.goods(0, 0, (safe + 1) % 3, 20, 1, 0);
                x.goods(0, 0, (safe + 2) % 3, 20, 1, 0);
                x.goods(0, 0, safe, 20, 30, 0);
                x.goods(0, 0, lies, 1, 20, 0);
                String when = "safe in " + safe + ", they lie in " + lies;
                check.due(when + ": both cheap ones must go", x.stow(3, 20), safe);
                check.due(when + ": one cheap one is enough", x.stow(3, 0), 0);
                check.due(when + ": all must go", x.stow(3, 41), NONE);
            }
        }
        ThrownOver y = new ThrownOver();
        y.ship(0, 40);
        y.goods(0, 0, 1, 30, 1, 0);
        y.goods(0, 0, 1, 1, 60, 0);
        y.goods(0, 0, 2, 10, 5, 0);
        check.due("goods 0 are safe under the dear ones alone", y.stow(0, 0), 3);
    }

    private static void stowOnTopOfAll() {
        check.sentence("should lie on top of all");
        ThrownOver x = new ThrownOver();
        x.ship(0, 30);
        x.goods(0, 0, 0, 5, 1, 0);
        x.goods(0, 0, 0, 30, 9, 0);
        check.due("goods 0 lie under and stay", x.least(0, WHICH), 2);
        check.due("on top of all they would go alone: 5 are enough", x.stow(0, 0), 3);
        check.due("6 must go: in HOLD 0 goods 0 would go ahead of 1, in HOLD 1 they stay", x.stow(0, 1), 1);
        check.due("goods 1 in HOLD 0 as they lie", x.stow(1, 0), 1);
    }

    private static void stowNone() {
        check.sentence("STOW: 0 .. 3. NONE.");
        ThrownOver x = State.ONE.made();
        check.due("7 by 7", x.stow(0, 53), 0);
        check.due("7 by 6", x.stow(0, 54), NONE);
        check.due("7 by 0", x.stow(0, 60), NONE);
        check.due("there is no LEAST", x.stow(0, 61), NONE);
        check.due("the greatest STORM", x.stow(0, 200), NONE);
        check.status("NONE is no refusal", x, 0, 0, 0);
        ThrownOver y = new ThrownOver();
        y.ship(0, 20);
        y.goods(0, 0, 2, 10, 9, 0);
        y.goods(0, 0, 1, 10, 9, 0);
        y.goods(0, 0, 0, 10, 8, 0);
        check.due("others could go, but these are the cheapest everywhere", y.stow(2, 0), NONE);
        check.due("on goods 2 the like goods 0 of the least bits go", y.stow(1, 0), 0);
        check.due("goods 0 themselves would go there", y.stow(0, 0), 1);
    }

    private static void promise17Bad() {
        check.sentence("BAD; NO: not on board.");
        ThrownOver x = State.LADEN.made();
        for (int k : new int[] {-1, 8, MIN, MAX}) {
            check.due("stow(" + k + ", 0)", x.stow(k, 0), BAD);
        }
        for (int f : new int[] {-1, 201, MIN, MAX}) {
            check.due("stow(7, " + f + ")", x.stow(7, f), BAD);
        }
        check.due("both", x.stow(8, 201), BAD);
        check.status("stow", x, 9, 0, 0);
        check.due("the last goods", x.stow(7, 0) >= NONE, true);
        check.due("stow(1, 0) of one", State.ONE.made().stow(1, 0), BAD);
    }

    private static void promise17NotOnBoard() {
        check.sentence("BAD; NO: not on board.");
        ThrownOver x = State.EMPTIED.made();
        for (int k = 0; k < 8; k++) {
            check.due("stow(" + k + ", 0)", x.stow(k, 0), NO);
        }
        check.due("a STORM that is none", x.stow(0, 201), BAD);
        x.undo();
        check.due("on board again", x.stow(0, 0), 0);
        check.status("stow", x, 1, 8, 0);
    }

    private static void tellOfLikeOnesTheLeast() {
        check.sentence("of like ones the least number");
        for (State state : new State[] {State.ONE, State.LADEN}) {
            ThrownOver x = state.made();
            for (int k = 0; k < state.goods(); k++) {
                check.due(state + ": no LOSS, tell(" + k + ")", x.tell(k), 0);
            }
        }
        ThrownOver y = new ThrownOver();
        y.goods(4, 0, 0, 1, 0, 60);
        y.over(0);
        check.due("a mast is alike by all", y.tell(0), 0);
        y.ship(0, 60);
        y.goods(0, 0, 0, 1, 0, 60);
        y.over(0);
        check.due("who bears it all alone", y.tell(0), 0);
        y.ship(99, 60);
        y.goods(2, 0, 0, 1, 0, 1);
        y.goods(0, 1, 1, 1, 0, 9);
        y.over(1);
        check.due("saved jewels told 0 or 1", y.tell(0), 0);
    }

    private static void tellAtBothEnds() {
        check.sentence("TELL: what (0 .. 60) the OWNER of GOODS k should tell of them so that NET is least now");
        ThrownOver x = new ThrownOver();
        x.ship(99, 60);
        x.goods(0, 0, 0, 1, 30, 30);
        x.goods(0, 1, 1, 1, 30, 30);
        x.over(0);
        check.due("THROWN: the most", x.tell(0), 60);
        check.due("saved: the least", x.tell(1), 0);
        x.undo();
        x.over(1);
        check.due("saved now", x.tell(0), 0);
        check.due("THROWN now", x.tell(1), 60);
    }

    /** Spoiled goods are made good by cut quarters: told 57 to 60 make 42, 43, 44, 45. */
    private static void tellBetween() {
        check.sentence("so that NET is least now");
        ThrownOver x = new ThrownOver();
        x.ship(99, 60);
        x.goods(5, 0, 0, 1, 0, 0);
        x.over(0);
        // HABIT: told 59 and 60 both make 22 good; 59 bears for less. Told 59: 22 * 62 / 161; 60: 22 * 63 / 162.
        check.due("thrown by habit", x.tell(0), 59);
        x.marked(0, 59);
        check.fraction("told 59", x, 22 * 62 - 22 * 161, 161);
        x.marked(0, 60);
        check.fraction("told 60", x, -121, 9);
    }

    private static void tellAllOthersAsTold() {
        check.sentence("(all others as told; thrown or not as now)");
        ThrownOver x = State.EMPTIED.made();
        long before = x.digest();
        for (int k = 0; k < 8; k++) {
            int best = x.tell(k);
            check.due("tell(" + k + ") is one of 0 .. 60", best >= 0 && best <= 60, true);
        }
        check.due("nothing is changed", x.digest(), before);
        ThrownOver y = new ThrownOver();
        y.ship(10, 60);
        y.goods(0, 0, 0, 1, 0, 60);
        y.goods(1, 0, 1, 1, 0, 10);
        y.over(0);
        check.due("the deck goods of one whose other goods were thrown", y.tell(1), 0);
        y.over(1);
        check.due("thrown deck goods are not made good", y.tell(1), 0);
    }

    private static void promise18Bad() {
        check.sentence("`int tell(int k)`: TELL. BAD.");
        ThrownOver x = State.LADEN.made();
        for (int k : new int[] {-1, 8, MIN, MAX}) {
            check.due("tell(" + k + ")", x.tell(k), BAD);
        }
        check.due("tell(7)", x.tell(7), 0);
        check.status("tell", x, 4, 0, 0);
        check.due("tell(1) of one", State.ONE.made().tell(1), BAD);
    }

    private static void markedAtItsLimits() {
        check.sentence("MARKED: what an OWNER would have NET, as THE FRACTION, were it told t.");
        ThrownOver x = new ThrownOver();
        x.ship(40, 60);
        x.goods(0, 1, 0, 1, 30, 30);
        x.goods(0, 1, 1, 1, 30, 20);
        x.over(0);
        check.due("marked(0, 0)", x.marked(0, 0), 1);
        check.fraction("no LOSS", x, 0, 1);
        check.due("marked(0, 60)", x.marked(0, 60), 1);
        check.fraction("60 * 80 / 120 less 60", x, -20, 1);
        check.due("marked(1, 0)", x.marked(1, 0), 1);
        check.fraction("30 * 30 / 70 less 30", x, -120, 7);
        check.due("marked(1, 60)", x.marked(1, 60), 1);
        check.fraction("30 * 90 / 130 less 30", x, -120, 13);
        check.due("TOLD stays", x.of(0, 5), 30);
        x.marked(0, 30);
        check.fraction("as told: 30 * 50 / 90 less 30", x, -40, 3);
        x.net(1);
        check.fraction("NET is that", x, -40, 3);
    }

    private static void markedAWholeOfNothing() {
        check.sentence("(0, if THE WHOLE is 0)");
        ThrownOver x = new ThrownOver();
        x.ship(0, 60);
        x.goods(0, 3, 0, 1, 0, 60);
        x.goods(4, 3, 1, 1, 0, 60);
        x.over(1);
        x.marked(0, 0);
        check.fraction("told 0", x, -5, 1);
        x.marked(0, 1);
        check.fraction("told 1: 5 less 5", x, 0, 1);
        check.due("tell(0)", x.tell(0), 0);
    }

    private static void promise19Bad() {
        check.sentence("MARKED: NET of the OWNER of GOODS k is THE FRACTION: 1. BAD.");
        ThrownOver x = State.LADEN.made();
        x.odds(0);
        for (int k : new int[] {-1, 8, MIN, MAX}) {
            check.due("marked(" + k + ", 0)", x.marked(k, 0), BAD);
        }
        for (int t : new int[] {-1, 61, MIN, MAX}) {
            check.due("marked(7, " + t + ")", x.marked(7, t), BAD);
        }
        check.status("marked", x, 8, 0, 0);
        check.due("marked(1, 0) of one", State.ONE.made().marked(1, 0), BAD);
    }
}
