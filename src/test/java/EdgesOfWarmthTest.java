/** The edges that term I and promises 11 and 12 name, each with its sentence. */
public final class EdgesOfWarmthTest {
    private static final int NO_NUMBER = 0x7FC00000;
    private static final Due DUE = new Due();

    public static void main(String[] args) {
        days();
        outsideAtMost();
        outsideAtLeast();
        endlessOnes();
        notTold();
        notRead();
        dayNought();
        noNumberIsTold();
        noSuchDayForNoNumber();
        cutToAWholeNumber();
        asFloats();
        theSmallestFloats();
        noSuchDay();
        cellarsAndPits();
        halvesAreCut();
        innerOnes();
        boatsAndCarts();
        salt();
        saltInItself();
        warmthAsItIs();
        DUE.end();
    }

    private static void days() {
        DUE.says("I", "DAYS 0 .. 199");
        IceTrade x = new IceTrade();
        DUE.told(x, "day 0", Due.warm(x, 0, 1f), 0);
        DUE.told(x, "day 199", Due.warm(x, 199, 2f), 0);
        DUE.due("tenths(0)", x.tenths(0), 10);
        DUE.due("tenths(199)", x.tenths(199), 20);
        DUE.says("Promise 11", "-1: no such day");
        int[] none = {-1, 200, Integer.MIN_VALUE, Integer.MAX_VALUE};
        for (int day : none) {
            DUE.told(x, "day " + day, Due.warm(x, day, 3f), -1);
        }
        DUE.due("tenths(0)", x.tenths(0), 10);
        DUE.due("tenths(199)", x.tenths(199), 20);
    }

    private static void outsideAtMost() {
        DUE.says("I", "OUTSIDE of a day is a float -60 .. 60, as told by warm()", "too large");
        IceTrade x = new IceTrade();
        DUE.told(x, "just below 60", Due.warm(x, 0, Math.nextDown(60f)), 0);
        DUE.told(x, "60", Due.warm(x, 0, 60f), 0);
        DUE.due("tenths(0)", x.tenths(0), 600);
        float[] bad = {Math.nextUp(60f), 60.1f, 64f, 120f, 1e30f, Float.MAX_VALUE};
        for (float degrees : bad) {
            DUE.told(x, "warm(0, " + degrees + ")", Due.warm(x, 0, degrees), -1);
        }
        DUE.due("it is left as it was", x.tenths(0), 600);
    }

    private static void outsideAtLeast() {
        DUE.says("I", "OUTSIDE of a day is a float -60 .. 60, as told by warm()", "too small");
        IceTrade x = new IceTrade();
        DUE.told(x, "just above -60", Due.warm(x, 0, Math.nextUp(-60f)), 0);
        DUE.told(x, "-60", Due.warm(x, 0, -60f), 0);
        DUE.due("tenths(0)", x.tenths(0), -600);
        float[] bad = {Math.nextDown(-60f), -60.1f, -64f, -120f, -1e30f, -Float.MAX_VALUE};
        for (float degrees : bad) {
            DUE.told(x, "warm(0, " + degrees + ")", Due.warm(x, 0, degrees), -1);
        }
        DUE.due("it is left as it was", x.tenths(0), -600);
    }

    private static void endlessOnes() {
        DUE.says("Promise 11", "-1: no such day, not -60 .. 60", "endless ones are numbers");
        IceTrade x = new IceTrade();
        Due.warm(x, 0, 4f);
        DUE.told(x, "endless", x.warm(0, 0x7F800000), -1);
        DUE.told(x, "endless below 0", x.warm(0, 0xFF800000), -1);
        DUE.due("tenths(0)", x.tenths(0), 40);
    }

    private static void notTold() {
        DUE.says("I", "of one that isn't told, or told as no number (not read), it is that of the day ahead of it",
            "isn't told");
        IceTrade x = new IceTrade();
        Due.warm(x, 5, 7f);
        DUE.due("tenths(4): not of the day behind it", x.tenths(4), 0);
        DUE.due("tenths(6)", x.tenths(6), 70);
        DUE.due("tenths(199): of all days on", x.tenths(199), 70);
        Due.warm(x, 8, -3f);
        DUE.due("tenths(7)", x.tenths(7), 70);
        DUE.due("tenths(8)", x.tenths(8), -30);
        DUE.due("tenths(199)", x.tenths(199), -30);
        Due.warm(x, 5, 9f);
        DUE.due("tenths(7): as day 5 is told anew", x.tenths(7), 90);
        DUE.due("tenths(9): behind day 8 it is as day 8", x.tenths(9), -30);
    }

    private static void notRead() {
        DUE.says("I", "of one that isn't told, or told as no number (not read), it is that of the day ahead of it",
            "told as no number");
        IceTrade x = new IceTrade();
        Due.warm(x, 3, 5f);
        Due.warm(x, 4, 6f);
        Due.warm(x, 5, 7f);
        DUE.told(x, "day 5, not read", x.warm(5, NO_NUMBER), 0);
        DUE.due("tenths(5)", x.tenths(5), 60);
        DUE.due("tenths(6)", x.tenths(6), 60);
        DUE.told(x, "day 4, not read", x.warm(4, NO_NUMBER), 0);
        DUE.due("tenths(4)", x.tenths(4), 50);
        DUE.due("tenths(5): two days ahead", x.tenths(5), 50);
        Due.warm(x, 5, 8f);
        DUE.due("tenths(5): read at last", x.tenths(5), 80);
        DUE.due("tenths(4)", x.tenths(4), 50);
        x.warm(199, NO_NUMBER);
        DUE.due("tenths(199): the last day", x.tenths(199), 80);
    }

    private static void dayNought() {
        DUE.says("I", "(0.0 of day 0)");
        IceTrade x = new IceTrade();
        DUE.due("not told", x.tenths(0), 0);
        Due.warm(x, 0, 5f);
        DUE.due("told", x.tenths(0), 50);
        DUE.due("day 1", x.tenths(1), 50);
        x.warm(0, NO_NUMBER);
        DUE.due("not read", x.tenths(0), 0);
        DUE.due("day 1 behind it", x.tenths(1), 0);
        DUE.due("day 199 behind it", x.tenths(199), 0);
    }

    private static void noNumberIsTold() {
        DUE.says("Promise 11", "(no number: it is told as not read)");
        int[] all = {0x7F800001, NO_NUMBER, 0x7FFFFFFF, 0xFF800001, 0xFFC00000, 0xFFFFFFFF};
        for (int bits : all) {
            IceTrade x = new IceTrade();
            Due.warm(x, 1, 5f);
            Due.warm(x, 2, 6f);
            DUE.told(x, "warm(2, " + Integer.toHexString(bits) + ")", x.warm(2, bits), 0);
            DUE.due("tenths(2)", x.tenths(2), 50);
        }
    }

    private static void noSuchDayForNoNumber() {
        DUE.says("Promise 11", "-1: no such day", "of no number too");
        IceTrade x = new IceTrade();
        DUE.told(x, "day -1", x.warm(-1, NO_NUMBER), -1);
        DUE.told(x, "day 200", x.warm(200, NO_NUMBER), -1);
    }

    private static void tenthsOf(float degrees, int due) {
        IceTrade x = new IceTrade();
        Due.warm(x, 0, degrees);
        DUE.due("tenths of " + degrees, x.tenths(0), due);
    }

    private static void cutToAWholeNumber() {
        DUE.says("I", "TENTHS: OUTSIDE times 10.0 (as floats), cut to a whole number", "cut");
        tenthsOf(0.09f, 0);
        tenthsOf(-0.09f, 0);
        tenthsOf(0.19f, 1);
        tenthsOf(-0.19f, -1);
        tenthsOf(12.55f, 125);
        tenthsOf(-12.55f, -125);
        tenthsOf(59.99f, 599);
        tenthsOf(-59.99f, -599);
        tenthsOf(0f, 0);
        tenthsOf(-0f, 0);
    }

    /** 0.7f is 0.69999999 and a little: a wider product would be below 7, one of floats is 7. */
    private static void asFloats() {
        DUE.says("I", "TENTHS: OUTSIDE times 10.0 (as floats), cut to a whole number", "as floats");
        DUE.holds("a wider product is less", (int) (0.7f * 10.0) == 6);
        tenthsOf(0.7f, 7);
        tenthsOf(-0.7f, -7);
        // one float less is a product that is less, too
        tenthsOf(Math.nextDown(0.7f), 6);
        for (int n = -599; n <= 600; n++) {
            float degrees = n / 10f;
            float less = Math.nextDown(degrees);
            tenthsOf(degrees, (int) (degrees * 10.0f));
            tenthsOf(less, (int) (less * 10.0f));
        }
    }

    private static void theSmallestFloats() {
        DUE.says("Promise 11", "OUTSIDE of a day is the float with these bits", "the smallest ones");
        int[] all = {0x00000000, 0x80000000, 0x00000001, 0x80000001, 0x007FFFFF, 0x807FFFFF, 0x00800000, 0x80800000};
        for (int bits : all) {
            IceTrade x = new IceTrade();
            Due.warm(x, 0, 9f);
            DUE.told(x, "warm(0, " + Integer.toHexString(bits) + ")", x.warm(0, bits), 0);
            DUE.due("tenths(0)", x.tenths(0), 0);
        }
    }

    private static void noSuchDay() {
        DUE.says("Promise 12", "TENTHS of a day; -1000 for no such day");
        IceTrade x = new IceTrade();
        Due.warm(x, 0, 1f);
        Due.warm(x, 199, -60f);
        DUE.due("tenths(0)", x.tenths(0), 10);
        DUE.due("tenths(199)", x.tenths(199), -600);
        int[] none = {-1, 200, Integer.MIN_VALUE, Integer.MAX_VALUE};
        for (int day : none) {
            DUE.due("tenths(" + day + ")", x.tenths(day), -1000);
        }
    }

    private static int warmthOf(int kind, float degrees) {
        IceTrade x = new IceTrade();
        x.room(kind, 1, 1, 1, -1);
        Due.warm(x, 0, degrees);
        return x.rooms(0, 5);
    }

    private static void cellarsAndPits() {
        DUE.says("I", "of a CELLAR and a PIT half of the day's and 80 together");
        for (int kind = 1; kind <= 5; kind += 4) {
            DUE.due("kind " + kind + " at 60", warmthOf(kind, 60f), 340);
            DUE.due("kind " + kind + " at 0", warmthOf(kind, 0f), 40);
            DUE.due("kind " + kind + " at -8", warmthOf(kind, -8f), 0);
            DUE.due("kind " + kind + " at -60", warmthOf(kind, -60f), -260);
        }
    }

    private static void halvesAreCut() {
        DUE.says("I", "of a CELLAR and a PIT half of the day's and 80 together, cut");
        for (int kind = 1; kind <= 5; kind += 4) {
            DUE.due("kind " + kind + " at 81 tenths", warmthOf(kind, 8.15f), 80);
            DUE.due("kind " + kind + " at -79 tenths", warmthOf(kind, -7.95f), 0);
            DUE.due("kind " + kind + " at -81 tenths", warmthOf(kind, -8.15f), 0);
            DUE.due("kind " + kind + " at -83 tenths", warmthOf(kind, -8.35f), -1);
        }
    }

    private static void innerOnes() {
        DUE.says("I", "of an INNER one the WARMTH of that in which it is");
        int[] outer = {0, 1, 3, 4, 5};
        int[] due = {100, 90, 110, 130, 90};
        for (int i = 0; i < outer.length; i++) {
            IceTrade x = new IceTrade();
            Due.warm(x, 0, 10f);
            x.room(outer[i], 1, 1, 1, -1);
            for (int room = 1; room < 8; room++) {
                x.room(2, 1, 1, 1, room - 1);
            }
            DUE.due("in one of kind " + outer[i], x.rooms(1, 5), due[i]);
            DUE.due("the seventh within another", x.rooms(7, 5), due[i]);
        }
    }

    private static void boatsAndCarts() {
        DUE.says("I", "of a BOAT 10 more, of a CART 30 more than the day's");
        DUE.due("a room", warmthOf(0, -60f), -600);
        DUE.due("a boat", warmthOf(3, -60f), -590);
        DUE.due("a cart", warmthOf(4, -60f), -570);
        DUE.due("a room", warmthOf(0, 60f), 600);
        DUE.due("a boat", warmthOf(3, 60f), 610);
        DUE.due("a cart", warmthOf(4, 60f), 630);
    }

    private static void salt() {
        DUE.says("I", "less 2 for each SALT BLOCK that lies in it");
        int[] kinds = {0, 1, 3, 4, 5};
        int[] due = {10, 45, 20, 40, 45};
        for (int i = 0; i < kinds.length; i++) {
            IceTrade x = new IceTrade();
            Due.warm(x, 0, 1f);
            Due.laidRoom(x, kinds[i], 6, 6, 1);
            x.cut(0, 35, 0, 5000);
            x.cut(0, 34, 1, 5000);
            DUE.due("without any in kind " + kinds[i], x.rooms(0, 5), due[i]);
            for (int n = 0; n < 30; n++) {
                x.cut(0, n, 2, 5000);
            }
            DUE.due("with 30 in kind " + kinds[i], x.rooms(0, 5), due[i] - 60);
            x.take(0, 32);
            DUE.due("with all taken in kind " + kinds[i], x.rooms(0, 5), due[i]);
            x.cut(0, 0, 2, 1000);
            x.terms(40, 200, 5000);
            x.day();
            DUE.due("one is gone in kind " + kinds[i], x.rooms(0, 5), due[i]);
        }
    }

    private static void saltInItself() {
        DUE.says("I", "less 2 for each SALT BLOCK that lies in it (itself)");
        IceTrade x = new IceTrade();
        Due.warm(x, 0, 10f);
        Due.laidRoom(x, 0, 2, 1, 1);
        x.room(2, 2, 1, 1, 0);
        Due.layAll(x, 1);
        x.cut(1, 0, 2, 5000);
        x.cut(1, 1, 2, 5000);
        DUE.due("the outer one is no colder by those in the inner one", x.rooms(0, 5), 100);
        DUE.due("the inner one is", x.rooms(1, 5), 96);
        x.cut(0, 0, 2, 5000);
        DUE.due("the outer one has one", x.rooms(0, 5), 98);
        DUE.due("the inner one has the outer one's warmth", x.rooms(1, 5), 94);
    }

    private static void warmthAsItIs() {
        DUE.says("Promise 3", "(WARMTH as it is.)");
        DUE.due("one tenth below 0", warmthOf(0, -0.1f), -1);
        DUE.due("two tenths below 0", warmthOf(0, -0.2f), -2);
        DUE.due("-60 degrees", warmthOf(0, -60f), -600);
    }
}
