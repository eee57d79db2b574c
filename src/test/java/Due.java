/** Counts and prints answers that are not the ones that are due. */
final class Due {
    private int wrong;

    void due(String call, long got, long want) {
        if (got != want) {
            wrong++;
            System.out.println(call + " answered " + got + ", due is " + want);
        }
    }

    void holds(String what, boolean isSo) {
        if (!isSo) {
            wrong++;
            System.out.println("does not hold: " + what);
        }
    }

    void end() {
        System.out.println(wrong == 0 ? "all answers are as due" : wrong + " answers are not as due");
        if (wrong != 0) {
            System.exit(1);
        }
    }

    /** Lays all rows of a room that has none. */
    static void layAll(IceTrade x, int room) {
        for (int layer = 0; layer < x.rooms(room, 3); layer++) {
            for (int row = 0; row < x.rooms(room, 2); row++) {
                x.lay(room, layer, row);
            }
        }
    }

    /** A room of its own with all rows laid. */
    static int laidRoom(IceTrade x, int kind, int width, int rows, int layers) {
        int room = x.room(kind, width, rows, layers, -1);
        layAll(x, room);
        return room;
    }

    static int warm(IceTrade x, int day, float degrees) {
        return x.warm(day, Float.floatToRawIntBits(degrees));
    }
}
