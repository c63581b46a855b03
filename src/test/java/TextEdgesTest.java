/** Promise 7: each sentence on THE TEXT, its TOKENS and where a FAULT lies, in a method of its own. */
public final class TextEdgesTest {
    private static final Check check = new Check();
    private static final String SHIP = "ship 1 2;";
    private static final String GOODS = "goods 0 0 0 1 0 0;";
    private static final String SHORT_GOODS = "goods0 0 0 1 0 0;";

    public static void main(String[] args) {
        itemsAreEndedByStops();
        howManyItems();
        fullText();
        shipOnce();
        shipFirstOfAll();
        numbersOfShip();
        numbersOfGoods();
        overAsItStandsThen();
        wordsOfLetters();
        wordsThatAreNone();
        oneToThreeFigures();
        fourthFigure();
        figuresAlone();
        blanksBetween();
        blanksWhereTheyNeedNotBe();
        ninthGoods();
        overOfGoodsThatAreNotThere();
        overOfGoodsThatCanNotBeThrown();
        bytesThatBeginNone();
        theFirstTokenOfAll();
        tooManyAndTooFewNumbers();
        endsTooEarly();
        everyBeginning();
        whatItTakesThePlaceOf();
        seenNoneNothingToUndo();
        allStays();
        readTwice();
        check.end();
    }

    private static int reads(String text) {
        return Check.read(new ThrownOver(), text);
    }

    private static void items(String text, int due) {
        check.due("read of '" + text + "'", reads(text), due);
    }

    private static void fault(String text, int place) {
        check.due("read of '" + text + "'", reads(text), -10 - place);
    }

    private static void itemsAreEndedByStops() {
        check.sentence("of ITEMS, each ended by ;");
        items("ship 1 2;", 1);
        fault("ship 1 2", 8);
        fault("ship 1 2 goods 0 0 0 1 0 0;", 9);
        fault("ship 1 2;goods 0 0 0 1 0 0", 26);
        fault("ship 1 2;goods 0 0 0 1 0 0 over 0;", 27);
        fault(SHIP + GOODS + "over 0", 33);
        fault("ship 1 2;;", 9);
        fault(";", 0);
        fault("ship;", 4);
    }

    private static void howManyItems() {
        check.sentence("THE CARGO is read: how many ITEMS.");
        items("ship 0 0;", 1);
        items("ship 99 200;", 1);
        items(SHIP + GOODS, 2);
        items(SHIP + GOODS + "over 0;", 3);
        StringBuilder most = new StringBuilder("ship1 2;");
        for (int k = 0; k < 6; k++) {
            most.append(SHORT_GOODS).append("over").append(k).append(';');
        }
        items(most.toString(), 13);
    }

    private static void fullText() {
        check.sentence("a TEXT (150 bytes at most)");
        check.due("the longest", State.LONGEST_TEXT.length(), 150);
        items(State.LONGEST_TEXT, 9);
        String last = State.LONGEST_TEXT.substring(0, 149);
        fault(last + ";", 149);
        fault(last + "?", 149);
        fault(last + "1", 149);
        fault(last + "a", 149);
        fault(State.LONGEST_TEXT.substring(0, 144) + "over 7", 150);
        fault(" ".repeat(150), 150);
        fault("a".repeat(150), 0);
        fault("1".repeat(150), 0);
        ThrownOver x = new ThrownOver();
        Check.read(x, State.LONGEST_TEXT.substring(0, 144) + "over7;");
        check.due("over as the last six bytes", x.count(1), 7);
    }

    private static void shipOnce() {
        check.sentence("ship WORTH CARRIES (once, first of all)");
        fault("ship 1 2;ship 1 2;", 9);
        fault("ship 1 2;ship", 9);
        fault(SHIP + GOODS + "ship 1 2;", 27);
        fault(SHIP + GOODS + "over 0; ship 1 2;", 35);
    }

    private static void shipFirstOfAll() {
        check.sentence("ship again, anything ahead of it");
        fault(GOODS + SHIP, 0);
        fault("over 0;" + SHIP, 0);
        fault("  goods", 2);
        fault("over", 0);
        fault("1 " + SHIP, 0);
        fault(";" + SHIP, 0);
        fault("sail;" + SHIP, 0);
        items(" " + SHIP, 1);
    }

    private static void numbersOfShip() {
        check.sentence("ship WORTH CARRIES");
        ThrownOver x = new ThrownOver();
        check.due("the least", Check.read(x, "ship 0 0;"), 1);
        check.due("WORTH", x.count(2), 0);
        check.due("CARRIES", x.count(3), 0);
        check.due("the most", Check.read(x, "ship 99 200;"), 1);
        check.due("WORTH", x.count(2), 99);
        check.due("CARRIES", x.count(3), 200);
        fault("ship 100 200;", 5);
        fault("ship 99 201;", 8);
        fault("ship 999 0;", 5);
        fault("ship 0 999;", 7);
        fault("ship -1 0;", 5);
        fault("ship 0 -1;", 7);
    }

    private static void numbersOfGoods() {
        check.sentence("goods KIND OWNER HOLD HEAVY WORTH TOLD");
        int[] least = {0, 0, 0, 1, 0, 0};
        int[] most = {5, 3, 2, 40, 60, 60};
        for (int what = 0; what < 6; what++) {
            for (int value : new int[] {least[what], most[what]}) {
                ThrownOver x = new ThrownOver();
                check.due("number " + what + " is " + value, Check.read(x, SHIP + goodsWith(what, "" + value)), 2);
                for (int i = 0; i < 6; i++) {
                    check.due("of(0, " + i + ")", x.of(0, i), i == what ? value : 1);
                }
                check.due("on board", x.of(0, 6), 1);
            }
            int place = SHIP.length() + "goods ".length() + 2 * what;
            fault(SHIP + goodsWith(what, "" + (most[what] + 1)), place);
            fault(SHIP + goodsWith(what, "999"), place);
            fault(SHIP + goodsWith(what, "-1"), place);
        }
        fault(SHIP + goodsWith(3, "0"), SHIP.length() + 12);
        fault(SHIP + goodsWith(3, "000"), SHIP.length() + 12);
    }

    private static String goodsWith(int what, String number) {
        StringBuilder text = new StringBuilder("goods");
        for (int i = 0; i < 6; i++) {
            text.append(' ').append(i == what ? number : "1");
        }
        return text.append(';').toString();
    }

    private static void overAsItStandsThen() {
        check.sentence("over k (THROWN, as it stands then)");
        items(SHIP + GOODS + "over 0;" + GOODS + "over 1;", 5);
        items(SHIP + GOODS + GOODS + "over 1;over 0;", 5);
        fault(SHIP + GOODS + GOODS + "over 0;", 50);
        ThrownOver x = new ThrownOver();
        Check.read(x, SHIP + GOODS + "over 0;" + GOODS);
        check.due("THROWN ahead of what came", x.of(0, 6), 0);
        check.due("what came", x.of(1, 7), 1);
        StringBuilder all = new StringBuilder("ship1 2;");
        for (int k = 0; k < 5; k++) {
            all.append(SHORT_GOODS);
        }
        for (int k = 4; k >= 0; k--) {
            all.append("over").append(k).append(';');
        }
        check.due("all from the top down", Check.read(x, all.toString()), 11);
        check.due("none on board", x.count(1), 0);
    }

    private static void wordsOfLetters() {
        check.sentence("TOKENS: words of letters a .. z");
        fault("SHIP 1 2;", 0);
        fault("Ship 1 2;", 0);
        fault("shiP 1 2;", 0);
        fault("ship` 1 2;", 4);
        fault("ship{ 1 2;", 4);
        fault("ship@ 1 2;", 4);
        fault("ship[ 1 2;", 4);
        fault("`ship 1 2;", 0);
        fault("{ship 1 2;", 0);
        fault("shipa 1 2;", 0);
        fault("shipz 1 2;", 0);
        fault("aship 1 2;", 0);
        fault("zship 1 2;", 0);
    }

    private static void wordsThatAreNone() {
        check.sentence("a word that is none");
        fault("shi 1 2;", 0);
        fault("s", 0);
        fault("a", 0);
        fault("z", 0);
        fault("shipship 1 2;", 0);
        fault("sh ip 1 2;", 0);
        fault(SHIP + "good 0 0 0 1 0 0;", 9);
        fault(SHIP + "goodss 0 0 0 1 0 0;", 9);
        fault(SHIP + "  ove 0;", 11);
        fault(SHIP + "overs 0;", 9);
        fault(SHIP + "throw 0;", 9);
        fault("ship one 2;", 5);
        fault("ship 1 two;", 7);
        fault("ship 1 2 end", 9);
    }

    private static void oneToThreeFigures() {
        check.sentence("figures (1 to 3 are one number)");
        ThrownOver x = new ThrownOver();
        check.due("three figures", Check.read(x, "ship 009 009;"), 1);
        check.due("WORTH", x.count(2), 9);
        check.due("CARRIES", x.count(3), 9);
        check.due("three figures", Check.read(x, "ship 000 123;"), 1);
        check.due("WORTH", x.count(2), 0);
        check.due("CARRIES", x.count(3), 123);
        check.due("two figures", Check.read(x, "ship 09 45;goods 005 003 002 040 060 006;over 000;"), 3);
        check.due("WORTH", x.count(2), 9);
        check.due("CARRIES", x.count(3), 45);
        check.due("HEAVY", x.of(0, 3), 40);
        check.due("TOLD", x.of(0, 5), 6);
        fault("ship 12;", 7);
    }

    private static void fourthFigure() {
        check.sentence("a fourth figure's number");
        fault("ship 0000 0;", 5);
        fault("ship 0 0000;", 7);
        fault("ship 1234 0;", 5);
        fault("ship 0001", 5);
        fault("ship 00000000000000 0;", 5);
        fault("ship 4294967297 0;", 5);
        fault(SHIP + "goods 0000 0 0 1 0 0;", 15);
        fault(SHIP + "goods 0 0 0 0001 0 0;", 21);
        fault(SHIP + GOODS + "over 0000;", 32);
        fault("ship 1 2 0000;", 9);
    }

    private static void figuresAlone() {
        check.sentence("a byte that begins none, too");
        fault("ship /1 2;", 5);
        fault("ship 1/ 2;", 6);
        fault("ship :1 2;", 5);
        fault("ship 1: 2;", 6);
        fault("ship +1 2;", 5);
        fault("ship 1.0 2;", 6);
        fault("ship 1 2,;", 8);
    }

    private static void blanksBetween() {
        check.sentence("blanks (32) between");
        items("   ship   1   2   ;   ", 1);
        fault("ship" + (char) 31 + "1 2;", 4);
        fault("ship" + (char) 33 + "1 2;", 4);
        fault("ship\t1 2;", 4);
        fault("ship 1\n2;", 6);
        fault("ship 1 2;\r", 9);
        fault((char) 0 + "ship 1 2;", 0);
        fault("ship 1 2;" + (char) 127, 9);
        fault("sh ip 1 2;", 0);
        fault("ship 1 2;goo ds 0 0 0 1 0 0;", 9);
        items("ship 1 20 ;", 1);
        fault("ship 1 2 0;", 9);
    }

    private static void blanksWhereTheyNeedNotBe() {
        check.sentence("TOKENS: words of letters a .. z, figures (1 to 3 are one number), ; ; blanks (32) between.");
        items("ship1 2;goods0 0 0 1 0 0;over0;", 3);
        fault("ship 1a2;", 6);
        fault("1ship 2;", 0);
        items("ship 1 2; ", 1);
        items("ship 1 2 ;goods 0 0 0 1 0 0 ; over 0 ; ", 3);
    }

    private static void ninthGoods() {
        check.sentence("a 9th goods at its word");
        String eight = State.LONGEST_TEXT.substring(0, 144);
        items(eight, 9);
        fault(eight + "goods", 144);
        fault(eight + " goods", 145);
        fault(eight + "goods0", 144);
        fault(eight + "good", 144);
        fault(eight + "over 8", 149);
        fault(eight + "over6;", 148);
    }

    private static void overOfGoodsThatAreNotThere() {
        check.sentence("a number not as told, also GOODS of over that are not there, or can not be THROWN");
        fault(SHIP + "over 0;", 14);
        fault(SHIP + GOODS + "over 1;", 32);
        fault(SHIP + GOODS + "over 8;", 32);
        fault(SHIP + GOODS + "over 999;", 32);
        fault(SHIP + GOODS + "over 1;" + GOODS, 32);
        fault(SHIP + "over 0;" + GOODS, 14);
    }

    private static void overOfGoodsThatCanNotBeThrown() {
        check.sentence("or can not be THROWN");
        fault(SHIP + GOODS + "over 0;over 0;", 39);
        fault(SHIP + GOODS + GOODS + "over 0;", 50);
        items(SHIP + GOODS + "goods 0 0 1 1 0 0;over 0;", 4);
        items(SHIP + GOODS + "goods 0 0 2 1 0 0;over 0;", 4);
        fault(SHIP + GOODS + GOODS + "over 1;over 1;", 57);
    }

    private static void bytesThatBeginNone() {
        check.sentence("a byte that begins none, too");
        for (int c = 0; c < 128; c++) {
            String text = SHIP + (char) c;
            check.due("read of a ship and the byte " + c, reads(text), c == ' ' ? 1 : -19);
            check.due("read of the byte " + c, reads("" + (char) c), c == ' ' ? -11 : -10);
        }
    }

    private static void theFirstTokenOfAll() {
        check.sentence("FAULT: the place of the first byte of the first TOKEN that can not stand there");
        fault("ship 100 201;", 5);
        fault("ship 1 201;?", 7);
        fault("ship 1 2;goods 6 4 3 41 61 61;", 15);
        fault("ship 1 2;goods 5 4 3 41 61 61;", 17);
        fault("ship 1 2;goods 5 3 3 41 61 61;", 19);
        fault("ship 1 2;goods 5 3 2 41 61 61;", 21);
        fault("ship 1 2;goods 5 3 2 40 61 61;", 24);
        fault("ship 1 2;goods 5 3 2 40 60 61;", 27);
        fault("ship 1 2;ship 100 201;", 9);
        fault("ship 1 2;over 0 ?;", 14);
        fault("ship     100 2;", 9);
    }

    private static void tooManyAndTooFewNumbers() {
        check.sentence("FAULT: the place of the first byte of the first TOKEN that can not stand there");
        fault("ship 1;", 6);
        fault("ship 1 2 3;", 9);
        fault(SHIP + "goods 0 0 0 1 0;", 24);
        fault(SHIP + "goods;", 14);
        fault(SHIP + "goods 0 0 0 1 0 0 0;", 27);
        fault(SHIP + "over;", 13);
        fault(SHIP + GOODS + "over 0 0;", 34);
        fault("ship goods 2;", 5);
        fault("ship 1 over;", 7);
        fault(SHIP + "5;", 9);
    }

    private static void endsTooEarly() {
        check.sentence("the TEXT's length, if it ends too early (an empty one, too)");
        fault("", 0);
        fault(" ", 1);
        fault("      ", 6);
        fault("ship", 4);
        fault("ship  ", 6);
        fault("ship 1", 6);
        fault("ship 1 ", 7);
        fault("ship 1 2", 8);
        fault("ship 1 2   ", 11);
        fault(SHIP + "goods", 14);
        fault(SHIP + "over ", 14);
        fault(SHIP + GOODS + "over 0", 33);
        items(SHIP + " ", 1);
    }

    /** Each beginning of a TEXT: it ends too early, or in a word that is none, or behind an ITEM. */
    private static void everyBeginning() {
        check.sentence("the TEXT's length, if it ends too early");
        String text = "ship 10 20;goods 0 0 0 10 0 0; over 0;";
        int items = 0;
        int wordAt = 0;
        for (int length = 0; length <= text.length(); length++) {
            String part = text.substring(0, length);
            boolean inWord = part.matches(".*(^|[; ])(s|sh|shi|g|go|goo|good|o|ov|ove)");
            char last = length == 0 ? ' ' : part.charAt(length - 1);
            boolean letter = last >= 'a' && last <= 'z';
            wordAt = letter ? wordAt : length;
            items += last == ';' ? 1 : 0;
            boolean ended = items > 0 && part.substring(part.lastIndexOf(';') + 1).isBlank();
            int due = ended ? items : -10 - (inWord ? wordAt : length);
            check.due("read of '" + part + "'", reads(part), due);
        }
    }

    private static void whatItTakesThePlaceOf() {
        check.sentence("A CARGO that is read takes the place of all but IMAGES, THE TEXT, THE FRACTION, STATUS");
        String text = "ship 3 4;goods 1 1 1 1 1 1;over 0;";
        for (State state : State.values()) {
            ThrownOver x = state.made();
            x.odds(58);
            long above = x.part(0);
            long below = x.part(1);
            int[] status = {x.status(0), x.status(1), x.status(2)};
            boolean kept = state == State.FULLEST;
            check.due(state + ": read", Check.read(x, text), 3);
            check.fraction(state + ": THE FRACTION", x, above, below);
            check.status(state + ": STATUS", x, status[0], status[1], status[2]);
            int[] counts = {1, 0, 3, 4, 0, 0, text.length()};
            for (int what = 0; what < 7; what++) {
                check.due(state + ": count(" + what + ")", x.count(what), counts[what]);
            }
            int[] facts = {1, 1, 1, 1, 1, 1, 0, 0};
            for (int what = 0; what < 8; what++) {
                check.due(state + ": of(0, " + what + ")", x.of(0, what), facts[what]);
            }
            check.due(state + ": of(1, 0)", x.of(1, 0), ThrownOver.BAD);
            check.due(state + ": IMAGE 0", x.from(0), kept ? 1 : ThrownOver.NO);
            check.due(state + ": IMAGE 1", x.from(1), kept ? 1 : ThrownOver.NO);
        }
    }

    private static void seenNoneNothingToUndo() {
        check.sentence("(SEEN none; nothing to undo)");
        ThrownOver x = State.EMPTIED.made();
        for (int i = 0; i < 6; i++) {
            x.seen(40, 0, 0);
        }
        Check.read(x, SHIP + GOODS + "goods 0 0 1 1 0 0;over 0;over 1;");
        check.due("SEEN", x.count(4), 0);
        check.due("what may be undone", x.count(5), 0);
        check.due("undo()", x.undo(), ThrownOver.NO);
        check.due("barrel() by no SEEN", x.barrel(), 3);
        check.due("seen again", x.seen(1, 0, 3), 1);
        Check.read(x, SHIP + GOODS);
        x.over(0);
        check.due("what is THROWN behind it may be undone", x.undo(), 1);
    }

    private static void allStays() {
        check.sentence("-10 less the FAULT: all stays.");
        ThrownOver x = State.FULLEST.made();
        x.clear();
        Check.type(x, SHIP + GOODS + "over 0;!");
        long before = x.digest();
        check.due("read()", x.read(), -10 - 34);
        check.due("digest()", x.digest(), before);
        check.due("count(6)", x.count(6), 35);
        check.due("count(5)", x.count(5), 4);
        check.due("the same FAULT again", x.read(), -10 - 34);
    }

    private static void readTwice() {
        check.sentence("THE CARGO is read: how many ITEMS.");
        ThrownOver x = new ThrownOver();
        Check.type(x, "ship 3 4;goods 1 1 1 1 1 1;");
        check.due("read()", x.read(), 2);
        long first = x.digest();
        x.over(0);
        x.goods(0, 0, 0, 1, 0, 0);
        check.due("read() again", x.read(), 2);
        check.due("it begins anew", x.digest(), first);
        check.due("THE TEXT stays", x.clear(), 27);
        check.due("read() of none", x.read(), -10);
        check.due("a FAULT of none leaves it", x.count(0), 1);
    }
}
