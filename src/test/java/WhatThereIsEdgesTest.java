import java.math.BigInteger;
import java.util.ArrayList;
import java.util.List;

/** Promises 28 to 33, and the terms that they need: each sentence that names a limit, in a method of its own. */
public final class WhatThereIsEdgesTest {
    private static final int BAD = ThrownOver.BAD, NO = ThrownOver.NO, FULL = ThrownOver.FULL;
    private static final int MIN = Integer.MIN_VALUE, MAX = Integer.MAX_VALUE;
    private static final Check check = new Check();

    public static void main(String[] args) {
        fractionAtFirst();
        fractionInLowestTerms();
        fractionBelowAboveNothing();
        fractionStays();
        promise28Bad();
        imagesKeepAllElse();
        imagesKeepNotTheText();
        imagesKeepNotTheFraction();
        imagesKeepNotStatus();
        imagesKeepNotImages();
        imagesKeepWhatMayBeUndone();
        itGoesOnFromOne();
        imageOfTheEmptiest();
        imageOverAnImage();
        promise29Bad();
        promise30NoneWasKept();
        promise30Bad();
        statusEachReason();
        statusOthersCountAsThese();
        statusIsNoRefusalItself();
        promise31AnotherWhat();
        promise32Emptiest();
        promise32Fullest();
        promise32OneByOne();
        promise32Bad();
        promise33Emptiest();
        promise33WrapsAround();
        promise33BelowNothing();
        promise33EachValueCounts();
        check.end();
    }

    private static void fractionAtFirst() {
        check.sentence("THE FRACTION is 0 by 1 at first");
        ThrownOver x = new ThrownOver();
        check.due("above", x.part(0), 0);
        check.due("below", x.part(1), 1);
    }

    private static void fractionInLowestTerms() {
        check.sentence("lowest terms, below above 0");
        ThrownOver x = new ThrownOver();
        x.ship(60, 60);
        x.goods(0, 0, 0, 1, 0, 60);
        x.goods(0, 1, 1, 1, 0, 60);
        x.over(0);
        x.share(0);
        check.fraction("3600 by 180", x, 20, 1);
        x.net(0);
        check.fraction("3600 by 180 less 60", x, -40, 1);
        x.tells(0, 54);
        x.share(0);
        check.fraction("54 * 54 by 174", x, 486, 29);
        x.net(0);
        check.fraction("54 * 54 by 174 less 54", x, -1080, 29);
        x.share(2);
        check.fraction("0 by 174", x, 0, 1);
        x.odds(56);
        check.fraction("4 by 10", x, 2, 5);
    }

    private static void fractionBelowAboveNothing() {
        check.sentence("lowest terms, below above 0");
        for (State state : State.values()) {
            ThrownOver x = state.made();
            for (int owner = 0; owner <= 4; owner++) {
                x.share(owner);
                lowest(state + ": share(" + owner + ")", x);
                if (owner < 4) {
                    x.net(owner);
                    lowest(state + ": net(" + owner + ")", x);
                }
            }
            for (int k = 0; k < state.goods(); k++) {
                for (int t = 0; t <= 60; t += 12) {
                    x.marked(k, t);
                    lowest(state + ": marked(" + k + ", " + t + ")", x);
                }
            }
        }
    }

    private static void lowest(String when, ThrownOver x) {
        BigInteger above = BigInteger.valueOf(x.part(0));
        BigInteger below = BigInteger.valueOf(x.part(1));
        check.due(when + ": below is above 0", below.signum(), 1);
        check.due(when + ": lowest terms", above.gcd(below).longValueExact(), 1);
    }

    private static void fractionStays() {
        check.sentence("`long part(int what)`: THE FRACTION: above (0), below (1). BAD.");
        ThrownOver x = new ThrownOver();
        x.odds(58);
        for (int i = 0; i < 3; i++) {
            check.due("above", x.part(0), 3);
            check.due("below", x.part(1), 10);
        }
        x.ship(1, 1);
        x.goods(0, 0, 0, 1, 1, 1);
        x.over(0);
        x.undo();
        x.tell(0);
        check.fraction("behind calls that tell none", x, 3, 10);
    }

    private static void promise28Bad() {
        check.sentence("above (0), below (1). BAD.");
        ThrownOver x = new ThrownOver();
        for (int what : new int[] {-1, 2, MIN, MAX}) {
            check.due("part(" + what + ")", x.part(what), (long) BAD);
        }
        check.fraction("it stays", x, 0, 1);
        check.status("part", x, 4, 0, 0);
    }

    private static void imagesKeepAllElse() {
        check.sentence("IMAGES 0, 1 keep all but them, THE TEXT, THE FRACTION and STATUS");
        for (State state : State.values()) {
            for (int i = 0; i < 2; i++) {
                ThrownOver x = state.made();
                long before = x.digest();
                long above = x.part(0);
                check.due(state + ": image(" + i + ")", x.image(i), 1);
                check.due(state + ": it stays as it is", x.digest(), before);
                x.ship(98, 199);
                for (int k = 0; k < 8; k++) {
                    x.goods(1, 1, 1, 2, 3, 4);
                }
                x.over(7);
                x.seen(39, 59, 2);
                check.due(state + ": from(" + i + ")", x.from(i), 1);
                check.due(state + ": digest()", x.digest(), before);
                check.due(state + ": THE FRACTION", x.part(0), above);
            }
        }
    }

    private static void imagesKeepNotTheText() {
        check.sentence("keep all but them, THE TEXT");
        ThrownOver x = new ThrownOver();
        x.image(0);
        Check.type(x, State.LONGEST_TEXT);
        x.image(1);
        x.from(0);
        check.due("150 bytes stay", x.count(6), 150);
        check.due("a 151st", x.type(32), FULL);
        x.clear();
        x.from(1);
        check.due("an empty one stays", x.count(6), 0);
        check.due("read()", x.read(), -10);
    }

    private static void imagesKeepNotTheFraction() {
        check.sentence("THE FRACTION and STATUS");
        ThrownOver x = new ThrownOver();
        x.image(0);
        x.odds(58);
        x.from(0);
        check.fraction("as it was behind odds", x, 3, 10);
    }

    private static void imagesKeepNotStatus() {
        check.sentence("THE FRACTION and STATUS");
        ThrownOver x = State.LADEN.made();
        x.image(0);
        x.over(8);
        x.over(0);
        x.goods(0, 0, 0, 1, 0, 0);
        x.from(0);
        check.status("as it was ahead of from", x, 1, 1, 1);
        x.image(1);
        check.status("behind image", x, 1, 1, 1);
    }

    private static void imagesKeepNotImages() {
        check.sentence("IMAGES 0, 1 keep all but them");
        ThrownOver x = new ThrownOver();
        x.image(0);
        x.ship(1, 1);
        x.image(1);
        check.due("from(0)", x.from(0), 1);
        check.due("WORTH", x.count(2), 20);
        check.due("from(1), kept behind IMAGE 0", x.from(1), 1);
        check.due("WORTH", x.count(2), 1);
        x.ship(2, 2);
        x.image(0);
        x.from(1);
        check.due("from(0), kept anew", x.from(0), 1);
        check.due("WORTH", x.count(2), 2);
    }

    private static void imagesKeepWhatMayBeUndone() {
        check.sentence("what may be undone they keep");
        ThrownOver x = State.EMPTIED.made();
        x.image(0);
        undoAll(x);
        x.image(1);
        check.due("nothing may be", x.undo(), NO);
        x.from(0);
        undoAll(x);
        x.over(5);
        x.over(6);
        x.over(7);
        x.from(0);
        undoAll(x);
        x.over(7);
        x.from(1);
        check.due("nothing may be again", x.undo(), NO);
        check.due("all on board", x.count(1), 8);
    }

    /** Goods 7 to 0 were thrown in this order: they come back from 0 on. */
    private static void undoAll(ThrownOver x) {
        check.due("all may be", x.count(5), 8);
        for (int k = 0; k < 8; k++) {
            check.due("undo", x.undo(), k + 1);
            check.due("in their order", x.of(k, 7), 1);
        }
    }

    private static void itGoesOnFromOne() {
        check.sentence("it goes on from one");
        ThrownOver x = State.ONE.made();
        x.image(0);
        for (int round = 0; round < 3; round++) {
            check.due("from(0)", x.from(0), 1);
            check.due("goods", x.goods(0, 0, 0, 1, 0, 0), 1);
            check.due("over(0)", x.over(0), 8);
            check.due("tells", x.tells(0, 60), 11);
            check.due("seen", x.seen(1, 1, 1), 1);
        }
        x.image(0);
        x.from(0);
        check.due("kept anew", x.of(0, 5), 60);
    }

    private static void imageOfTheEmptiest() {
        check.sentence("An IMAGE is kept: 1.");
        ThrownOver x = new ThrownOver();
        check.due("image(0) of a new one", x.image(0), 1);
        x.ship(0, 0);
        check.due("image(1) of a bare one", x.image(1), 1);
        x.goods(0, 0, 0, 1, 0, 0);
        x.from(0);
        check.due("digest()", x.digest(), new ThrownOver().digest());
        x.from(1);
        check.due("digest()", x.digest(), State.BARE.made().digest());
    }

    private static void imageOverAnImage() {
        check.sentence("An IMAGE is kept: 1.");
        ThrownOver x = State.FULLEST.made();
        x.ship(7, 7);
        check.due("image(0)", x.image(0), 1);
        x.from(1);
        check.due("IMAGE 1 is as it was", x.count(1), 3);
        x.from(0);
        check.due("IMAGE 0 is the later one", x.count(2), 7);
        check.due("no GOODS of the first", x.count(0), 0);
    }

    private static void promise29Bad() {
        check.sentence("An IMAGE is kept: 1. BAD.");
        ThrownOver x = new ThrownOver();
        for (int i : new int[] {-1, 2, 32, 33, MIN, MAX}) {
            check.due("image(" + i + ")", x.image(i), BAD);
        }
        check.due("from(0)", x.from(0), NO);
        check.due("from(1)", x.from(1), NO);
        check.status("image", x, 6, 2, 0);
    }

    private static void promise30NoneWasKept() {
        check.sentence("It goes on from an IMAGE: 1. BAD; NO: none was kept.");
        ThrownOver x = State.LADEN.made();
        check.due("from(0)", x.from(0), NO);
        check.due("from(1)", x.from(1), NO);
        x.image(1);
        check.due("from(0), 1 was kept", x.from(0), NO);
        check.due("from(1)", x.from(1), 1);
        x.ship(1, 1);
        check.due("from(1) behind ship", x.from(1), 1);
        check.due("from(1) twice", x.from(1), 1);
        check.status("from", x, 0, 3, 0);
        ThrownOver y = new ThrownOver();
        y.image(0);
        check.due("from(1), 0 was kept", y.from(1), NO);
        check.due("from(0)", y.from(0), 1);
    }

    private static void promise30Bad() {
        check.sentence("It goes on from an IMAGE: 1. BAD");
        for (State state : new State[] {State.NEW, State.FULLEST}) {
            ThrownOver x = state.made();
            int before = x.status(0);
            for (int i : new int[] {-1, 2, 32, 33, MIN, MAX}) {
                check.due(state + ": from(" + i + ")", x.from(i), BAD);
            }
            check.due(state + ": BAD", x.status(0), before + 6);
        }
    }

    private static void statusEachReason() {
        check.sentence("STATUS: BAD (0), NO (1), FULL (2).");
        ThrownOver x = State.LADEN.made();
        check.status("at first", x, 0, 0, 0);
        x.over(8);
        check.status("one BAD", x, 1, 0, 0);
        x.over(0);
        x.undo();
        check.status("two NO", x, 1, 2, 0);
        for (int i = 0; i < 3; i++) {
            x.goods(0, 0, 0, 1, 0, 0);
        }
        check.status("three FULL", x, 1, 2, 3);
        for (int i = 0; i < 300; i++) {
            x.over(8);
        }
        check.status("many", x, 301, 2, 3);
    }

    private static void statusOthersCountAsThese() {
        check.sentence("(where others are told they count as these)");
        ThrownOver x = new ThrownOver();
        check.due("least(0, -3)", x.least(0, -3), -10);
        check.status("-10 counts as BAD", x, 1, 0, 0);
        check.due("status(3)", x.status(3), -1);
        check.status("-1 of status counts as BAD", x, 2, 0, 0);
        check.due("part(2)", x.part(2), (long) BAD);
        check.status("BAD of part", x, 3, 0, 0);
        check.due("asks()", x.asks(), -1);
        check.due("least(61, 0)", x.least(61, 0), -1);
        check.due("least(0, 0)", x.least(0, 0), -5);
        check.due("read()", x.read(), -10);
        check.status("NONE, -5 and a FAULT do not count", x, 3, 0, 0);
    }

    private static void statusIsNoRefusalItself() {
        check.sentence("STATUS: how many calls were refused as BAD, NO, FULL");
        ThrownOver x = new ThrownOver();
        for (int i = 0; i < 5; i++) {
            check.status("asked again", x, 0, 0, 0);
        }
    }

    private static void promise31AnotherWhat() {
        check.sentence("-1: another what (counts as BAD).");
        ThrownOver x = new ThrownOver();
        int[] whats = {-1, 3, -2, 32, MIN, MAX};
        for (int i = 0; i < whats.length; i++) {
            check.due("status(" + whats[i] + ")", x.status(whats[i]), -1);
            check.status("it counts", x, i + 1, 0, 0);
        }
    }

    private static void promise32Emptiest() {
        check.sentence("How many: 0 GOODS, 1 on board, 2 THE SHIP's WORTH, 3 CARRIES, 4 SEEN, 5 that may be undone,"
            + " 6 bytes of THE TEXT. BAD.");
        ThrownOver x = State.BARE.made();
        for (int what = 0; what < 7; what++) {
            check.due("count(" + what + ")", x.count(what), 0);
        }
    }

    private static void promise32Fullest() {
        check.sentence("4 SEEN, 5 that may be undone, 6 bytes of THE TEXT");
        ThrownOver x = State.FULLEST.made();
        int[] due = {8, 4, 99, 200, 6, 4, 150};
        for (int what = 0; what < 7; what++) {
            check.due("count(" + what + ")", x.count(what), due[what]);
        }
        x.from(0);
        check.due("all on board", x.count(1), 8);
        for (int k = 7; k >= 0; k--) {
            x.over(k);
        }
        check.due("none on board", x.count(1), 0);
        check.due("all may be undone", x.count(5), 8);
    }

    private static void promise32OneByOne() {
        check.sentence("0 GOODS, 1 on board");
        ThrownOver x = new ThrownOver();
        for (int k = 0; k < 8; k++) {
            x.goods(0, 0, 0, 1, 0, 0);
            check.due("count(0)", x.count(0), k + 1);
            check.due("count(1)", x.count(1), 1);
            x.over(k);
            check.due("count(1) behind over", x.count(1), 0);
            check.due("count(5) behind over", x.count(5), 1);
        }
        x.undo();
        check.due("count(5) behind undo", x.count(5), 0);
        check.due("count(1) behind undo", x.count(1), 1);
    }

    private static void promise32Bad() {
        check.sentence("6 bytes of THE TEXT. BAD.");
        ThrownOver x = State.FULLEST.made();
        int before = x.status(0);
        for (int what : new int[] {-1, 7, MIN, MAX}) {
            check.due("count(" + what + ")", x.count(what), BAD);
        }
        check.due("BAD", x.status(0), before + 4);
    }

    private static void promise33Emptiest() {
        check.sentence("h = 1117; then h = 31 h + v for each v: count(0) to count(6)");
        // 1117 * 31^9 + 20 * 31^6 + 60 * 31^5 + 1
        check.due("a new one", new ThrownOver().digest(), 29533077421292188L);
        check.due("by its values", new ThrownOver().digest(), chained(new ThrownOver(), new int[0][]));
        check.due("a bare one", State.BARE.made().digest(), chained(State.BARE.made(), new int[0][]));
    }

    /** By big numbers, cut to a long at the end alone. */
    private static long chained(ThrownOver x, int[][] seen) {
        List<Long> values = new ArrayList<>();
        for (int what = 0; what < 7; what++) {
            values.add((long) x.count(what));
        }
        for (int k = 0; k < x.count(0); k++) {
            for (int what = 0; what < 7; what++) {
                values.add((long) x.of(k, what));
            }
        }
        for (int[] s : seen) {
            for (int v : s) {
                values.add((long) v);
            }
        }
        values.add(x.part(0));
        values.add(x.part(1));
        BigInteger h = BigInteger.valueOf(1117);
        for (long v : values) {
            h = h.multiply(BigInteger.valueOf(31)).add(BigInteger.valueOf(v));
        }
        return h.longValue();
    }

    private static void promise33WrapsAround() {
        check.sentence("of GOODS KIND, OWNER, HOLD, HEAVY, WORTH, TOLD, on board (1, 0); of SEEN h, w, d");
        int[][] seen = new int[6][];
        for (int i = 0; i < 6; i++) {
            seen[i] = new int[] {1 + i, 60 - i, i % 4};
        }
        ThrownOver x = State.FULLEST.made();
        check.due("the fullest", x.digest(), chained(x, seen));
        for (State state : new State[] {State.ONE, State.LADEN, State.EMPTIED, State.SETTLED}) {
            ThrownOver y = state.made();
            check.due(state.toString(), y.digest(), chained(y, new int[0][]));
        }
    }

    private static void promise33BelowNothing() {
        check.sentence("of SEEN h, w, d; THE FRACTION.");
        ThrownOver x = new ThrownOver();
        long before = x.digest();
        x.odds(58);
        check.due("3 by 10", x.digest(), before + 31 * 3 + 9);
        x.goods(4, 0, 0, 1, 0, 0);
        x.over(0);
        x.net(1);
        long none = x.digest();
        x.net(0);
        check.due("-5 by 1", x.digest(), none - 31 * 5);
    }

    private static void promise33EachValueCounts() {
        check.sentence("`long digest()`: h = 1117");
        ThrownOver x = State.ONE.made();
        long before = x.digest();
        x.tells(0, 12);
        check.due("TOLD 12, not 11", x.digest(), before + 31 * 31 * 31);
        x.tells(0, 11);
        x.type(0);
        check.due("a byte", x.digest() != before, true);
        x.clear();
        check.due("no byte", x.digest(), before);
        x.over(0);
        check.due("on board and what may be undone", x.digest() != before, true);
        x.undo();
        check.due("as it was", x.digest(), before);
        x.seen(1, 0, 0);
        x.forget();
        check.due("STATUS and IMAGES are not in it", x.digest(), before);
        x.image(0);
        x.over(9);
        check.due("STATUS and IMAGES are not in it", x.digest(), before);
    }
}
