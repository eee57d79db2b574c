/** Promises 11 and 12: warm, tenths; and WARMTH of the kinds of rooms. */
public final class WarmthTest {
    private static final Due DUE = new Due();

    public static void main(String[] args) {
        whatIsTold();
        whatIsRefused();
        cutAsFloats();
        notRead();
        warmthOfKinds();
        innerOnes();
        DUE.end();
    }

    private static void whatIsTold() {
        IceTrade x = new IceTrade();
        DUE.due("60", Due.warm(x, 0, 60f), 0);
        DUE.due("-60", Due.warm(x, 199, -60f), 0);
        DUE.due("tenths(0)", x.tenths(0), 600);
        DUE.due("tenths(198)", x.tenths(198), 600);
        DUE.due("tenths(199)", x.tenths(199), -600);
        DUE.due("told anew", Due.warm(x, 0, -0.0f), 0);
        DUE.due("tenths(0)", x.tenths(0), 0);
        DUE.due("tenths(100)", x.tenths(100), 0);
        DUE.due("tenths(-1)", x.tenths(-1), -1000);
        DUE.due("tenths(200)", x.tenths(200), -1000);
    }

    private static void whatIsRefused() {
        IceTrade x = new IceTrade();
        Due.warm(x, 3, 7f);
        float[] bad = {Math.nextUp(60f), Math.nextDown(-60f), 1e30f, -1e30f, Float.MAX_VALUE, Float.POSITIVE_INFINITY,
            Float.NEGATIVE_INFINITY};
        for (float f : bad) {
            DUE.due("warm(3, " + f + ")", Due.warm(x, 3, f), -1);
        }
        DUE.due("day -1", Due.warm(x, -1, 1f), -1);
        DUE.due("day 200", Due.warm(x, 200, 1f), -1);
        DUE.due("day 200, no number", Due.warm(x, 200, Float.NaN), -1);
        DUE.due("tenths(3)", x.tenths(3), 70);
    }

    private static void cutAsFloats() {
        IceTrade x = new IceTrade();
        for (int n = -600; n <= 600; n++) {
            float f = n / 10.0f;
            Due.warm(x, 5, f);
            DUE.due("tenths of " + f, x.tenths(5), (int) (f * 10.0f));
        }
        float[] odd = {0.7f, 0.69999993f, -0.7f, 0.05f, -0.05f, 0.1f, 0.099999994f, 59.999996f, -59.999996f, Float.MIN_VALUE,
            -Float.MIN_VALUE, Float.MIN_NORMAL, 1.1754942E-38f, 20.55f, 33.3f, -1.15f};
        for (float f : odd) {
            Due.warm(x, 5, f);
            DUE.due("tenths of " + f, x.tenths(5), (int) (f * 10.0f));
        }
        Due.warm(x, 5, 0.7f);
        DUE.due("0.7 is less, but not as a float times 10.0", x.tenths(5), 7);
        Due.warm(x, 5, -2.58f);
        DUE.due("cut, not rounded down", x.tenths(5), -25);
    }

    private static void notRead() {
        IceTrade x = new IceTrade();
        int[] noNumbers = {0x7FC00000, 0x7F800001, 0x7FFFFFFF, 0xFF800001, 0xFFFFFFFF};
        Due.warm(x, 0, 3f);
        Due.warm(x, 1, 4f);
        for (int bits : noNumbers) {
            Due.warm(x, 2, 5f);
            DUE.due("tenths(2)", x.tenths(2), 50);
            DUE.due("warm(2, " + bits + ")", x.warm(2, bits), 0);
            DUE.due("tenths(2)", x.tenths(2), 40);
            DUE.due("tenths(9)", x.tenths(9), 40);
        }
        x.warm(1, 0x7FC00000);
        DUE.due("both as the day ahead of them", x.tenths(2), 30);
        x.warm(0, 0x7FC00000);
        DUE.due("0.0 of day 0", x.tenths(0), 0);
        DUE.due("0.0 behind it", x.tenths(2), 0);
        Due.warm(x, 1, -4f);
        DUE.due("carried on again", x.tenths(2), -40);
        DUE.due("not backwards", x.tenths(0), 0);
        DUE.due("up to the last day", x.tenths(199), -40);
    }

    private static void warmthOfKinds() {
        float[] degrees = {10f, -8.1f, -8.3f, -60f, 0f};
        int[][] due = {{100, 90, 110, 130, 90}, {-81, 0, -71, -51, 0}, {-83, -1, -73, -53, -1},
            {-600, -260, -590, -570, -260}, {0, 40, 10, 30, 40}};
        int[] kinds = {0, 1, 3, 4, 5};
        for (int d = 0; d < degrees.length; d++) {
            IceTrade x = new IceTrade();
            Due.warm(x, 0, degrees[d]);
            for (int k = 0; k < kinds.length; k++) {
                int room = Due.laidRoom(x, kinds[k], 2, 1, 1);
                DUE.due("kind " + kinds[k] + " at " + degrees[d], x.rooms(room, 5), due[d][k]);
                x.cut(room, 0, 2, 50000);
                x.cut(room, 1, 2, 50000);
                DUE.due("with salt", x.rooms(room, 5), due[d][k] - 4);
                x.take(room, 1);
                DUE.due("with less of it", x.rooms(room, 5), due[d][k] - 2);
            }
        }
    }

    private static void innerOnes() {
        IceTrade x = new IceTrade();
        Due.warm(x, 0, 10f);
        Due.laidRoom(x, 4, 2, 1, 1);
        for (int room = 1; room < 4; room++) {
            x.room(2, 2, 1, 1, room - 1);
            Due.layAll(x, room);
        }
        x.cut(0, 0, 2, 50000);
        x.cut(2, 0, 2, 50000);
        x.cut(2, 1, 2, 50000);
        DUE.due("the outer one", x.rooms(0, 5), 128);
        DUE.due("as that in which it is", x.rooms(1, 5), 128);
        DUE.due("less for its own", x.rooms(2, 5), 124);
        DUE.due("as that one", x.rooms(3, 5), 124);
        Due.warm(x, 1, 20f);
        x.day();
        DUE.due("another day", x.rooms(3, 5), 224);
    }
}
