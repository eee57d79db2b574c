/** Promises 13 to 15: terms, day, count. */
public final class DayTest {
    private static final Due DUE = new Due();

    public static void main(String[] args) {
        termsAreToldOrRefused();
        termsAreUsed();
        wetOnes();
        whatIsGone();
        allByHowTheyLay();
        whereTheLossGoes();
        spoiltOnes();
        daysEnd();
        whatCountTells();
        DUE.end();
    }

    private static void termsAreToldOrRefused() {
        IceTrade x = new IceTrade();
        int[][] good = {{0, 0, 1}, {100, 10000, 1000000}};
        int[][] bad = {{-1, 0, 1}, {101, 0, 1}, {0, -1, 1}, {0, 10001, 1}, {0, 0, 0}, {0, 0, 1000001}};
        for (int[] t : good) {
            DUE.due("terms" + java.util.Arrays.toString(t), x.terms(t[0], t[1], t[2]), 0);
        }
        for (int[] t : bad) {
            DUE.due("terms" + java.util.Arrays.toString(t), x.terms(t[0], t[1], t[2]), -1);
        }
    }

    private static void termsAreUsed() {
        IceTrade x = new IceTrade();
        Due.warm(x, 0, 1.1f);
        Due.laidRoom(x, 0, 2, 1, 1);
        x.cut(0, 0, 0, 5000);
        x.put(0, 1, 0);
        DUE.due("PART 40 at first", x.block(0, 8), 5 * 33 + 13);
        x.terms(99, 0, 1);
        DUE.due("PART 99, cut", x.block(0, 8), 5 * 33 + 32);
        x.terms(100, 0, 1);
        DUE.due("PART 100", x.block(0, 8), 6 * 33);
        x.terms(0, 0, 1);
        DUE.due("PART 0", x.block(0, 8), 5 * 33);
        x.terms(101, 0, 1);
        DUE.due("what is refused changes nothing", x.block(0, 8), 5 * 33);
        DUE.due("day()", x.day(), 165);
        DUE.due("block(0, 1)", x.block(0, 1), 4835);
    }

    private static void wetOnes() {
        IceTrade x = new IceTrade();
        Due.warm(x, 0, -60f);
        Due.laidRoom(x, 5, 2, 1, 2);
        Due.laidRoom(x, 1, 2, 1, 2);
        x.cut(0, 0, 0, 5000);
        x.cut(0, 2, 0, 5000);
        x.cut(1, 0, 0, 5000);
        DUE.due("WET 200 at first, in the cold too", x.block(0, 8), 200);
        DUE.due("not above layer 0", x.block(1, 8), 0);
        DUE.due("not in a cellar", x.block(2, 8), 0);
        x.terms(40, 10000, 1000);
        DUE.due("at most what it weighs", x.block(0, 8), 5000);
        x.put(0, 1, 1);
        DUE.due("not with a drain in that layer", x.block(0, 8), 0);
        x.clear(0, 1);
        x.put(0, 1, 0);
        x.put(0, 3, 1);
        DUE.due("a drain above does not help", x.block(0, 8), 5000);
        DUE.due("day()", x.day(), 5000);
        DUE.due("nothing of it is left", x.count(5), 0);
        DUE.due("block(0, 2)", x.block(0, 2), -1);
    }

    private static void whatIsGone() {
        IceTrade x = new IceTrade();
        Due.warm(x, 0, 10f);
        Due.laidRoom(x, 0, 6, 1, 1);
        x.cut(0, 0, 0, 2800);
        x.cut(0, 2, 0, 2799);
        x.cut(0, 4, 0, 1500);
        DUE.due("day()", x.day(), 1800 + 1800 + 1500);
        DUE.due("just LEAST stays", x.block(0, 1), 1000);
        DUE.due("below it is gone", x.block(1, 1), 0);
        DUE.due("its place holds nothing", x.place(0, 2), 0);
        DUE.due("gone grams", x.count(5), 999);
        DUE.due("grams in rooms", x.count(2), 1000);
        DUE.due("cut there again", x.cut(0, 2, 0, 5000), 3);
        Due.warm(x, 1, -10f);
        x.terms(40, 200, 1001);
        DUE.due("a cold day", x.day(), 0);
        DUE.due("below a new LEAST it is gone without loss", x.block(0, 2), -1);
        DUE.due("gone grams", x.count(5), 1999);
        DUE.due("but has no line", x.count(13), 0);
    }

    /** Row of three: were losses told one by one, the first one's going would lay bare the second. */
    private static void allByHowTheyLay() {
        IceTrade x = new IceTrade();
        Due.warm(x, 0, 10f);
        Due.laidRoom(x, 0, 3, 1, 1);
        x.cut(0, 0, 2, 1500);
        x.cut(0, 1, 1, 9000);
        x.cut(0, 2, 0, 1500);
        DUE.due("day()", x.day(), 1500 + 4 * 294 + 1470);
        DUE.due("spoilt by one that is gone since", x.block(1, 5), 0);
        DUE.due("the salt is gone", x.rooms(0, 5), 100);
        DUE.due("all sides in air", x.block(1, 8), 1800);
    }

    private static void whereTheLossGoes() {
        IceTrade x = new IceTrade();
        Due.warm(x, 0, 10f);
        Due.laidRoom(x, 0, 3, 1, 3);
        Due.laidRoom(x, 0, 2, 2, 1);
        x.cut(0, 0, 0, 5000);
        x.cut(1, 0, 0, 50000);
        x.put(1, 3, 1);
        DUE.due("day()", x.day(), 3600);
        DUE.due("it stands", x.rooms(0, 9), 1800);
        DUE.due("none is led off", x.rooms(0, 8), 0);
        DUE.due("led off by any drain in layer 0", x.rooms(1, 8), 1800);
        DUE.due("none stands", x.rooms(1, 9), 0);
        // straw, block, block in a column; the lower one goes, and a drain comes in its place
        x.take(0, 1);
        x.put(0, 0, 0);
        x.cut(0, 3, 0, 1500);
        x.cut(0, 6, 0, 90000);
        x.cut(0, 2, 0, 90000);
        DUE.due("a day", x.day(), 1320 + 1500 + 1800 + 1800);
        DUE.due("all of it stands", x.rooms(0, 9), 1800 + 1320 + 1500 + 1800);
        DUE.due("a drain in layer 1", x.put(0, 3, 1), 0);
        int standing = x.rooms(0, 9);
        DUE.due("another day", x.day(), 1800 + 1800 + 1800);
        DUE.due("melted in all", x.count(4), 3600 + 6420 + 5400);
        DUE.due("led off beneath in the column", x.rooms(0, 8), 1800);
        DUE.due("the other column's stands", x.rooms(0, 9), standing + 1800);
        DUE.due("count(6)", x.count(6), 1800 * 4);
        DUE.due("count(7)", x.count(7), standing + 1800);
    }

    private static void spoiltOnes() {
        IceTrade x = new IceTrade();
        Due.laidRoom(x, 0, 3, 1, 2);
        Due.laidRoom(x, 5, 2, 1, 2);
        x.cut(0, 0, 1, 50000);
        x.cut(0, 1, 1, 50000);
        x.cut(0, 3, 1, 50000);
        x.cut(1, 0, 1, 50000);
        x.cut(1, 2, 1, 50000);
        x.cut(1, 1, 0, 50000);
        x.day();
        DUE.due("nothing spoils it", x.block(0, 5), -1);
        DUE.due("water does", x.block(3, 5), 0);
        DUE.due("not above", x.block(4, 5), -1);
        DUE.due("not a plain one", x.block(5, 5), -1);
        x.cut(0, 4, 2, 50000);
        DUE.due("not before a day goes by", x.block(1, 5), -1);
        x.day();
        DUE.due("salt above", x.block(1, 5), 1);
        DUE.due("salt beside", x.block(2, 5), 1);
        DUE.due("salt askew does not", x.block(0, 5), -1);
        DUE.due("the first day stays", x.block(3, 5), 0);
        x.day();
        DUE.due("the first day stays", x.block(1, 5), 1);
        DUE.due("salt itself", x.block(6, 5), -1);
    }

    private static void daysEnd() {
        IceTrade x = new IceTrade();
        for (int d = 0; d < 199; d++) {
            DUE.due("count(0)", x.count(0), d);
            DUE.due("day()", x.day(), 0);
        }
        DUE.due("TODAY is 199", x.count(0), 199);
        DUE.due("day()", x.day(), -7);
        DUE.due("count(0)", x.count(0), 199);
    }

    private static void whatCountTells() {
        IceTrade x = new IceTrade();
        Due.warm(x, 0, 10f);
        Due.laidRoom(x, 0, 6, 1, 1);
        Due.laidRoom(x, 0, 1, 1, 2);
        x.cut(0, 0, 0, 10000);
        x.cut(0, 2, 0, 2500);
        x.cut(0, 4, 0, 20000);
        x.cut(1, 0, 0, 30000);
        x.cut(1, 1, 0, 40000);
        x.put(0, 5, 1);
        x.day();
        x.take(1, 2);
        x.way(3, 5);
        x.way(4, 7);
        x.way(4, 0);
        x.heap(0, 1000);
        int melted = 1800 * 3 + 1500 * 2;
        int[] due = {1, 102500, 10000 + 20000 - 3600, 70000 - 3000, melted, 700, 5400, 3000, 5, 2, 2, 3, 12, 5, 1, 2};
        for (int what = 0; what <= 15; what++) {
            DUE.due("count(" + what + ")", x.count(what), due[what]);
        }
        DUE.due("count(16)", x.count(16), -1);
        DUE.due("count(-1)", x.count(-1), -1);
        DUE.due("all is somewhere", x.count(2) + x.count(3) + x.count(4) + x.count(5), x.count(1));
    }
}
