/** The edges that term VII and promises 32 to 34 name, each with its sentence. */
public final class EdgesOfTheBookTest {
    private static final int[] WILD = {Integer.MIN_VALUE, Integer.MAX_VALUE};
    private static final Due DUE = new Due();

    public static void main(String[] args) {
        aLineForEachThatLost();
        oneGramIsALine();
        inTheirOrder();
        whatWasLeft();
        goneWithoutLoss();
        theLatestDay();
        linesThatAreNone();
        anotherWhat();
        alterLinesThatAreNone();
        alterAnotherWhat();
        alterByNoBits();
        theOrderOfAlter();
        alterByAllBits();
        refusedOnesAlterNothing();
        noBook();
        allLinesAreRight();
        theFirstThatIsNot();
        theDayAsItWas();
        aBookWithoutLines();
        theLongestBook();
        DUE.end();
    }

    /** Three blocks in rooms 1 and 2 that lose 180 grams each on day 0; the third one is gone by it. */
    private static IceTrade withThreeLines() {
        IceTrade x = new IceTrade();
        x.room(0, 1, 1, 1, -1);
        Due.laidRoom(x, 0, 6, 1, 1);
        Due.laidRoom(x, 0, 3, 1, 1);
        Due.warm(x, 0, 1f);
        Due.warm(x, 1, -60f);
        x.cut(1, 4, 0, 5000);
        x.cut(2, 2, 0, 6000);
        x.cut(1, 0, 0, 1179);
        x.day();
        return x;
    }

    private static void aLineForEachThatLost() {
        DUE.says("VII", "THE BOOK of the latest day() has a LINE for each BLOCK that lost by it");
        IceTrade x = new IceTrade();
        Due.laidRoom(x, 0, 3, 3, 3);
        Due.warm(x, 0, 1f);
        for (int place = 0; place < 27; place++) {
            x.cut(0, place, 0, 50000);
        }
        x.take(0, 1);
        x.day();
        DUE.due("all but the one in the middle and the one that is taken", x.count(13), 25);
        DUE.due("the first line", x.line(0, 0), 0);
        DUE.due("the line ahead of the one in the middle", x.line(12, 0), 12);
        DUE.due("the line behind it", x.line(13, 0), 14);
        DUE.due("the line ahead of the one that is taken", x.line(16, 0), 17);
        DUE.due("the line behind it", x.line(17, 0), 19);
        DUE.due("the last line", x.line(24, 0), 26);
    }

    private static void oneGramIsALine() {
        DUE.says("VII", "a LINE for each BLOCK that lost by it", "one gram is a loss, none is not");
        IceTrade x = new IceTrade();
        Due.laidRoom(x, 5, 1, 1, 1);
        Due.warm(x, 0, -60f);
        x.cut(0, 0, 0, 5000);
        x.terms(40, 0, 1000);
        x.day();
        DUE.due("WET 0", x.count(13), 0);
        x.terms(40, 1, 1000);
        x.day();
        DUE.due("WET 1", x.count(13), 1);
        int[] due = {0, 0, 0, 5000, 1, 4999};
        for (int what = 0; what <= 5; what++) {
            DUE.due("line(0, " + what + ")", x.line(0, what), due[what]);
        }
    }

    private static void inTheirOrder() {
        DUE.says("VII", "in their order: its number, ROOM, PLACE, what it weighed, its LOSS, and what was left");
        IceTrade x = withThreeLines();
        int[][] due = {{0, 1, 4, 5000, 180, 4820}, {1, 2, 2, 6000, 180, 5820}, {2, 1, 0, 1179, 180, 0}};
        for (int i = 0; i < 3; i++) {
            for (int what = 0; what <= 5; what++) {
                DUE.due("line(" + i + ", " + what + ")", x.line(i, what), due[i][what]);
            }
        }
    }

    private static void whatWasLeft() {
        DUE.says("VII", "what was left (0 of one that is GONE)");
        int[] grams = {1179, 1180, 1000};
        for (int g : grams) {
            IceTrade x = new IceTrade();
            Due.laidRoom(x, 0, 1, 1, 1);
            Due.warm(x, 0, 1f);
            x.cut(0, 0, 0, g);
            x.day();
            DUE.due("what it weighed", x.line(0, 3), g);
            DUE.due("its loss", x.line(0, 4), 180);
            DUE.due("what was left", x.line(0, 5), g < 1180 ? 0 : g - 180);
        }
    }

    private static void goneWithoutLoss() {
        DUE.says("VII", "a LINE for each BLOCK that lost by it", "one that is GONE without a loss has none");
        IceTrade x = new IceTrade();
        Due.laidRoom(x, 0, 1, 1, 1);
        Due.warm(x, 0, -60f);
        x.cut(0, 0, 0, 5000);
        x.terms(40, 200, 5001);
        DUE.due("day()", x.day(), 0);
        DUE.due("it is gone", x.block(0, 2), -1);
        DUE.due("LINES", x.count(13), 0);
    }

    private static void theLatestDay() {
        DUE.says("VII", "THE BOOK of the latest day()");
        IceTrade x = withThreeLines();
        x.alter(0, 0, 1);
        x.alter(2, 0, 1);
        x.day();
        DUE.due("LINES of a day of frost", x.count(13), 0);
        DUE.due("line(0, 0)", x.line(0, 0), -2);
        DUE.due("what was altered in the BOOK ahead of it is no more", x.check(), -1);
        Due.warm(x, 2, 2f);
        x.day();
        DUE.due("LINES of another day", x.count(13), 2);
        DUE.due("line(1, 3)", x.line(1, 3), 5820);
        DUE.due("line(1, 4)", x.line(1, 4), 360);
        DUE.due("line(2, 0)", x.line(2, 0), -2);
        DUE.due("check()", x.check(), -1);
    }

    private static void linesThatAreNone() {
        DUE.says("Promise 32", "-2; -1 for another what", "LINE");
        IceTrade x = withThreeLines();
        int[] none = {-1, 3, 299, 300, WILD[0], WILD[1]};
        for (int i : none) {
            for (int what = 0; what <= 5; what++) {
                DUE.due("line(" + i + ", " + what + ")", x.line(i, what), -2);
            }
        }
        DUE.due("line(2, 0)", x.line(2, 0), 2);
        IceTrade y = new IceTrade();
        DUE.due("without a BOOK", y.line(0, 0), -2);
    }

    private static void anotherWhat() {
        DUE.says("Promise 32", "-2; -1 for another what", "another what");
        IceTrade x = withThreeLines();
        int[] others = {-1, 6, WILD[0], WILD[1]};
        for (int what : others) {
            DUE.due("line(0, " + what + ")", x.line(0, what), -1);
            DUE.due("line(2, " + what + ")", x.line(2, what), -1);
            DUE.due("line(3, " + what + "): -1 is ahead of -2", x.line(3, what), -1);
        }
        IceTrade y = new IceTrade();
        DUE.due("without a BOOK", y.line(0, 6), -1);
    }

    private static void alterLinesThatAreNone() {
        DUE.says("Promise 33", "-1 another what, mask 0; -2", "LINE");
        IceTrade x = new IceTrade();
        DUE.told(x, "without a BOOK", x.alter(0, 0, 1), -2);
        IceTrade y = withThreeLines();
        int[] none = {-1, 3, 299, 300, WILD[0], WILD[1]};
        for (int i : none) {
            DUE.told(y, "alter(" + i + ", 0, 1)", y.alter(i, 0, 1), -2);
            DUE.told(y, "alter(" + i + ", 5, 1)", y.alter(i, 5, 1), -2);
        }
        DUE.told(y, "alter(2, 0, 1)", y.alter(2, 0, 1), 0);
        DUE.told(y, "alter(0, 0, 1)", y.alter(0, 0, 1), 0);
    }

    private static void alterAnotherWhat() {
        DUE.says("Promise 33", "-1 another what, mask 0; -2", "another what");
        IceTrade x = withThreeLines();
        int[] others = {-1, 6, WILD[0], WILD[1]};
        for (int what : others) {
            DUE.told(x, "alter(0, " + what + ", 1)", x.alter(0, what, 1), -1);
            DUE.told(x, "alter(1, " + what + ", 1)", x.alter(1, what, 1), -1);
        }
        DUE.due("check()", x.check(), -1);
        DUE.told(x, "alter(0, 0, 1)", x.alter(0, 0, 1), 0);
        DUE.told(x, "alter(0, 5, 1)", x.alter(0, 5, 1), 0);
    }

    private static void alterByNoBits() {
        DUE.says("Promise 33", "by what mask has of bits (not 0)", "mask 0");
        IceTrade x = withThreeLines();
        for (int what = 0; what <= 5; what++) {
            DUE.told(x, "alter(0, " + what + ", 0)", x.alter(0, what, 0), -1);
        }
        DUE.due("check()", x.check(), -1);
    }

    private static void theOrderOfAlter() {
        DUE.says("REFUSED", "The first of these in that order", "alter: -1 ahead of -2");
        IceTrade x = new IceTrade();
        DUE.told(x, "mask 0, without a BOOK", x.alter(0, 0, 0), -1);
        DUE.told(x, "another what, without a BOOK", x.alter(0, 6, 1), -1);
        IceTrade y = withThreeLines();
        DUE.told(y, "mask 0 of no line", y.alter(3, 0, 0), -1);
        DUE.told(y, "another what of no line", y.alter(-1, 6, 1), -1);
    }

    private static void alterByAllBits() {
        DUE.says("Promise 33", "That number is altered: by what mask has of bits");
        int[] masks = {1, 2, 3, 0x40000000, WILD[0], WILD[1], -1};
        for (int what = 0; what <= 5; what++) {
            for (int mask : masks) {
                IceTrade x = withThreeLines();
                int was = x.line(1, what);
                DUE.told(x, "alter(1, " + what + ", " + mask + ")", x.alter(1, what, mask), 0);
                DUE.due("line(1, " + what + ")", x.line(1, what), was ^ mask);
                DUE.due("check()", x.check(), 1);
                x.alter(1, what, mask);
                DUE.due("line(1, " + what + ") altered twice", x.line(1, what), was);
                DUE.due("check()", x.check(), -1);
            }
        }
    }

    private static void refusedOnesAlterNothing() {
        DUE.says("REFUSED", "What is REFUSED changes nothing but status()", "alter");
        IceTrade x = withThreeLines();
        x.alter(3, 0, 1);
        x.alter(-1, 0, 1);
        x.alter(0, 6, 1);
        x.alter(1, -1, 1);
        x.alter(0, 0, 0);
        int[][] due = {{0, 1, 4, 5000, 180, 4820}, {1, 2, 2, 6000, 180, 5820}, {2, 1, 0, 1179, 180, 0}};
        for (int i = 0; i < 3; i++) {
            for (int what = 0; what <= 5; what++) {
                DUE.due("line(" + i + ", " + what + ")", x.line(i, what), due[i][what]);
            }
        }
        DUE.due("check()", x.check(), -1);
    }

    private static void noBook() {
        DUE.says("Promise 34", "-7: there is no BOOK");
        IceTrade x = new IceTrade();
        DUE.due("a new object", x.check(), -7);
        Due.laidRoom(x, 0, 1, 1, 1);
        x.cut(0, 0, 0, 5000);
        x.foretell(5, 0);
        DUE.due("days foretold write none", x.check(), -7);
        x.image(0);
        x.day();
        DUE.due("behind a day()", x.check(), -1);
        x.back(0);
        DUE.due("behind back()", x.check(), -7);
    }

    private static void allLinesAreRight() {
        DUE.says("Promise 34", "NONE if all of its LINES are right");
        IceTrade x = withThreeLines();
        DUE.due("check()", x.check(), -1);
        for (int i = 0; i < 3; i++) {
            x.alter(i, i, 5);
            DUE.due("check()", x.check(), i);
            x.alter(i, i, 4);
            x.alter(i, i, 1);
            DUE.due("altered back bit by bit", x.check(), -1);
        }
    }

    private static void theFirstThatIsNot() {
        DUE.says("Promise 34", "else the first that isn't");
        for (int what = 0; what <= 5; what++) {
            IceTrade x = withThreeLines();
            x.alter(2, 5 - what, 1);
            DUE.due("the last line", x.check(), 2);
            x.alter(1, what, 1);
            DUE.due("the one in the middle", x.check(), 1);
            x.alter(0, what, 1);
            DUE.due("the first line", x.check(), 0);
            x.alter(0, what, 1);
            DUE.due("the one in the middle again", x.check(), 1);
        }
    }

    private static void theDayAsItWas() {
        DUE.says("Promise 34", "THE BOOK against the day as it was");
        IceTrade x = withThreeLines();
        Due.warm(x, 0, 50f);
        x.terms(1, 2, 3);
        x.take(1, 1);
        x.cut(1, 0, 2, 5000);
        x.put(1, 4, 0);
        x.image(0);
        x.foretell(9, 0);
        DUE.due("check()", x.check(), -1);
        x.alter(1, 5, 64);
        DUE.due("check()", x.check(), 1);
    }

    private static void aBookWithoutLines() {
        DUE.says("Promise 34", "NONE if all of its LINES are right", "a BOOK without LINES");
        IceTrade x = new IceTrade();
        x.day();
        DUE.due("check()", x.check(), -1);
        DUE.due("LINES", x.count(13), 0);
        DUE.told(x, "alter(0, 0, 1)", x.alter(0, 0, 1), -2);
    }

    /** In rooms of two places in a row each block has a side beyond the room, so that all of them lose. */
    private static void theLongestBook() {
        DUE.says("VII", "a LINE for each BLOCK that lost by it", "300 of them");
        IceTrade x = new IceTrade();
        Due.warm(x, 0, 1f);
        for (int room = 0; room < 5; room++) {
            x.room(0, 2, 6, 5, -1);
            for (int row = 0; row < 30; row++) {
                x.lay(room, row / 6, row % 6);
            }
            for (int place = 0; place < 60; place++) {
                x.cut(room, place, 0, 10000);
            }
        }
        x.day();
        DUE.due("LINES", x.count(13), 300);
        DUE.due("the last one", x.line(299, 0), 299);
        DUE.due("one more", x.line(300, 0), -2);
        DUE.told(x, "alter(299, 5, 1)", x.alter(299, 5, 1), 0);
        DUE.due("check()", x.check(), 299);
        DUE.told(x, "alter(300, 5, 1)", x.alter(300, 5, 1), -2);
    }
}
