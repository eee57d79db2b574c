/** Promises 32 to 34: line, alter, check. */
public final class BookTest {
    private static final Due DUE = new Due();

    public static void main(String[] args) {
        whatLinesTell();
        linesAreAltered();
        theDayAsItWas();
        booksWithoutLines();
        threeHundredLines();
        DUE.end();
    }

    private static IceTrade furnished() {
        IceTrade x = new IceTrade();
        Due.warm(x, 0, 10f);
        Due.warm(x, 1, -20f);
        Due.laidRoom(x, 5, 2, 1, 1);
        Due.laidRoom(x, 0, 3, 1, 1);
        Due.laidRoom(x, 0, 1, 1, 1);
        x.cut(1, 2, 0, 2500);
        x.cut(2, 0, 0, 7000);
        x.cut(0, 1, 0, 9000);
        x.cut(1, 0, 0, 5000);
        x.take(2, 1);
        x.day();
        return x;
    }

    private static void whatLinesTell() {
        IceTrade x = furnished();
        int[][] due = {{0, 1, 2, 2500, 1800, 0}, {2, 0, 1, 9000, 6 * 270 + 200, 9000 - 1820}, {3, 1, 0, 5000, 1800, 3200}};
        DUE.due("count(13)", x.count(13), 3);
        for (int i = 0; i < due.length; i++) {
            for (int what = 0; what < 6; what++) {
                DUE.due("line(" + i + ", " + what + ")", x.line(i, what), due[i][what]);
            }
        }
        DUE.due("line(3, 0)", x.line(3, 0), -2);
        DUE.due("line(-1, 0)", x.line(-1, 0), -2);
        DUE.due("line(0, 6)", x.line(0, 6), -1);
        DUE.due("line(0, -1)", x.line(0, -1), -1);
        DUE.due("line(9, 9): -1 is first", x.line(9, 9), -1);
        DUE.due("check()", x.check(), -1);
        x.day();
        DUE.due("in frost the pit's alone lost", x.count(13), 1);
        DUE.due("line(0, 0)", x.line(0, 0), 2);
    }

    private static void linesAreAltered() {
        IceTrade x = furnished();
        DUE.due("alter(0, 6, 1)", x.alter(0, 6, 1), -1);
        DUE.due("alter(0, -1, 1)", x.alter(0, -1, 1), -1);
        DUE.due("alter(0, 0, 0)", x.alter(0, 0, 0), -1);
        DUE.due("alter(3, 0, 0): -1 is first", x.alter(3, 0, 0), -1);
        DUE.due("alter(3, 0, 1)", x.alter(3, 0, 1), -2);
        DUE.due("alter(-1, 0, 1)", x.alter(-1, 0, 1), -2);
        DUE.due("check()", x.check(), -1);
        for (int what = 0; what < 6; what++) {
            int was = x.line(2, what);
            DUE.due("alter(2, " + what + ", 6)", x.alter(2, what, 6), 0);
            DUE.due("line(2, " + what + ")", x.line(2, what), was ^ 6);
            DUE.due("check()", x.check(), 2);
            DUE.due("alter again", x.alter(2, what, 6), 0);
            DUE.due("line(2, " + what + ")", x.line(2, what), was);
            DUE.due("check()", x.check(), -1);
        }
        x.alter(2, 0, -1);
        x.alter(1, 5, Integer.MIN_VALUE);
        DUE.due("the first that isn't right", x.check(), 1);
        DUE.due("line(1, 5)", x.line(1, 5), 7180 ^ Integer.MIN_VALUE);
        x.alter(0, 3, 1);
        DUE.due("the first that isn't right", x.check(), 0);
        DUE.due("the block itself is as it was", x.block(2, 1), 7180);
        x.day();
        DUE.due("a new day, a new BOOK", x.check(), -1);
    }

    private static void theDayAsItWas() {
        IceTrade x = furnished();
        Due.warm(x, 0, 30f);
        x.terms(0, 0, 1);
        x.take(1, 1);
        x.cut(0, 0, 0, 5000);
        DUE.due("check()", x.check(), -1);
        DUE.due("line(0, 4)", x.line(0, 4), 1800);
    }

    private static void threeHundredLines() {
        IceTrade x = new IceTrade();
        Due.laidRoom(x, 5, 6, 6, 5);
        Due.laidRoom(x, 5, 6, 6, 5);
        for (int r = 0; r < 8; r++) {
            x.room(0, 1, 1, 1, -1);
        }
        Due.warm(x, 0, 60f);
        for (int i = 0; i < 300; i++) {
            x.cut(i % 2, i / 2, 0, 100000);
        }
        x.terms(0, 10000, 1);
        DUE.due("those in the middle lose nothing", x.block(86, 8), 0);
        x.day();
        int lines = x.count(13);
        DUE.holds("but most lose", lines > 180);
        DUE.due("the last one", x.line(lines - 1, 0), 299);
        x.alter(lines - 1, 5, 1);
        DUE.due("check()", x.check(), lines - 1);
        DUE.due("line(lines, 0)", x.line(lines, 0), -2);
    }

    private static void booksWithoutLines() {
        IceTrade x = new IceTrade();
        DUE.due("no BOOK yet", x.check(), -7);
        DUE.due("alter(0, 0, 1)", x.alter(0, 0, 1), -2);
        x.day();
        DUE.due("a BOOK without LINES is right", x.check(), -1);
        for (int d = 1; d < 199; d++) {
            x.day();
        }
        Due.laidRoom(x, 5, 1, 1, 1);
        x.cut(0, 0, 0, 5000);
        DUE.due("day()", x.day(), -7);
        DUE.due("it has no LINE by a refused day()", x.count(13), 0);
    }
}
