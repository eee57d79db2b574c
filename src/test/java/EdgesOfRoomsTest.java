/** The edges that term II names of ROOMS and ROWS, and promises 2 to 5, each with its sentence. */
public final class EdgesOfRoomsTest {
    private static final int[] WILD = {Integer.MIN_VALUE, Integer.MAX_VALUE};
    private static final Due DUE = new Due();

    public static void main(String[] args) {
        eightRooms();
        kinds();
        widths();
        rowsOfALayer();
        layers();
        inOfInnerOnes();
        inOfOthers();
        aNinth();
        aNinthThatCannotBe();
        placesAreNumbered();
        roomsOfNone();
        roomsOfAnotherWhat();
        whereItIs();
        emptyRooms();
        fullRooms();
        layLayer();
        layRow();
        layInNoRoom();
        laidAlready();
        notTheOneBeneath();
        oneByOne();
        allThirtyRows();
        tearLayer();
        tearRow();
        tearInNoRoom();
        tornAlready();
        holdsSomething();
        oneAboveIsLaid();
        DUE.end();
    }

    private static IceTrade withRoom(int width, int rows, int layers) {
        IceTrade x = new IceTrade();
        x.room(0, width, rows, layers, -1);
        return x;
    }

    private static void eightRooms() {
        DUE.says("II", "ROOMS 0 .. 7");
        IceTrade x = new IceTrade();
        for (int room = 0; room <= 7; room++) {
            DUE.due("rooms(" + room + ", 0) ahead of it", x.rooms(room, 0), -2);
            DUE.told(x, "room " + room, x.room(0, 1, 1, 1, -1), room);
            DUE.due("rooms(" + room + ", 0)", x.rooms(room, 0), 0);
        }
        DUE.due("rooms(8, 0)", x.rooms(8, 0), -2);
        DUE.due("count(10)", x.count(10), 8);
    }

    private static void kinds() {
        DUE.says("Promise 2", "-1: KIND, width, rows, layers", "KIND");
        IceTrade x = new IceTrade();
        DUE.told(x, "kind -1", x.room(-1, 1, 1, 1, -1), -1);
        DUE.told(x, "kind 6", x.room(6, 1, 1, 1, -1), -1);
        for (int kind : WILD) {
            DUE.told(x, "kind " + kind, x.room(kind, 1, 1, 1, -1), -1);
        }
        for (int kind = 0; kind <= 5; kind++) {
            DUE.told(x, "kind " + kind, x.room(kind, 1, 1, 1, kind == 2 ? 0 : -1), kind);
            DUE.due("rooms(" + kind + ", 0)", x.rooms(kind, 0), kind);
        }
    }

    private static void widths() {
        DUE.says("Promise 2", "-1: KIND, width, rows, layers", "width, 1 to 6");
        IceTrade x = new IceTrade();
        int[] bad = {0, 7, -1, WILD[0], WILD[1]};
        for (int width : bad) {
            DUE.told(x, "width " + width, x.room(0, width, 1, 1, -1), -1);
        }
        for (int width = 1; width <= 6; width++) {
            DUE.told(x, "width " + width, x.room(0, width, 1, 1, -1), width - 1);
            DUE.due("its width", x.rooms(width - 1, 1), width);
            DUE.due("its last place", x.place(width - 1, width - 1), -3);
            DUE.due("a place more", x.place(width - 1, width), -1);
        }
    }

    private static void rowsOfALayer() {
        DUE.says("Promise 2", "-1: KIND, width, rows, layers", "rows, 1 to 6");
        IceTrade x = new IceTrade();
        int[] bad = {0, 7, -1, WILD[0], WILD[1]};
        for (int rows : bad) {
            DUE.told(x, "rows " + rows, x.room(0, 1, rows, 1, -1), -1);
        }
        for (int rows = 1; rows <= 6; rows++) {
            DUE.told(x, "rows " + rows, x.room(0, 1, rows, 1, -1), rows - 1);
            DUE.due("its rows", x.rooms(rows - 1, 2), rows);
            DUE.due("its last place", x.place(rows - 1, rows - 1), -3);
            DUE.due("a place more", x.place(rows - 1, rows), -1);
        }
    }

    private static void layers() {
        DUE.says("Promise 2", "-1: KIND, width, rows, layers", "layers, 1 to 5");
        IceTrade x = new IceTrade();
        int[] bad = {0, 6, -1, WILD[0], WILD[1]};
        for (int layers : bad) {
            DUE.told(x, "layers " + layers, x.room(0, 1, 1, layers, -1), -1);
        }
        for (int layers = 1; layers <= 5; layers++) {
            DUE.told(x, "layers " + layers, x.room(0, 1, 1, layers, -1), layers - 1);
            DUE.due("its layers", x.rooms(layers - 1, 3), layers);
            DUE.due("its last place", x.place(layers - 1, layers - 1), -3);
            DUE.due("a place more", x.place(layers - 1, layers), -1);
        }
    }

    private static void inOfInnerOnes() {
        DUE.says("Promise 2", "(of an INNER one) in is no ROOM's number yet");
        IceTrade x = new IceTrade();
        DUE.told(x, "in none, ahead of any", x.room(2, 1, 1, 1, -1), -1);
        DUE.told(x, "in 0, ahead of any", x.room(2, 1, 1, 1, 0), -1);
        x.room(0, 1, 1, 1, -1);
        DUE.told(x, "in none", x.room(2, 1, 1, 1, -1), -1);
        DUE.told(x, "in itself", x.room(2, 1, 1, 1, 1), -1);
        DUE.told(x, "in 8", x.room(2, 1, 1, 1, 8), -1);
        for (int in : WILD) {
            DUE.told(x, "in " + in, x.room(2, 1, 1, 1, in), -1);
        }
        DUE.told(x, "in 0", x.room(2, 1, 1, 1, 0), 1);
        DUE.told(x, "in an inner one", x.room(2, 1, 1, 1, 1), 2);
        DUE.told(x, "in itself", x.room(2, 1, 1, 1, 3), -1);
    }

    private static void inOfOthers() {
        DUE.says("Promise 2", "(others: in must be -1)");
        IceTrade x = new IceTrade();
        x.room(0, 1, 1, 1, -1);
        int[] kinds = {0, 1, 3, 4, 5};
        int[] bad = {0, 1, -2, WILD[0], WILD[1]};
        for (int kind : kinds) {
            for (int in : bad) {
                DUE.told(x, "kind " + kind + " in " + in, x.room(kind, 1, 1, 1, in), -1);
            }
        }
        DUE.due("count(10)", x.count(10), 1);
    }

    private static void aNinth() {
        DUE.says("Promise 2", "-6: there are 8");
        IceTrade x = new IceTrade();
        for (int room = 0; room < 8; room++) {
            x.room(0, 1, 1, 1, -1);
        }
        DUE.told(x, "a ninth", x.room(0, 1, 1, 1, -1), -6);
        DUE.told(x, "a ninth in the eighth", x.room(2, 1, 1, 1, 7), -6);
        DUE.due("count(10)", x.count(10), 8);
        DUE.due("rooms(8, 0)", x.rooms(8, 0), -2);
    }

    private static void aNinthThatCannotBe() {
        DUE.says("REFUSED", "The first of these in that order", "room: -1 ahead of -6");
        IceTrade x = new IceTrade();
        for (int room = 0; room < 8; room++) {
            x.room(0, 1, 1, 1, -1);
        }
        DUE.told(x, "a ninth of no kind", x.room(6, 1, 1, 1, -1), -1);
        DUE.told(x, "a ninth without width", x.room(0, 0, 1, 1, -1), -1);
        DUE.told(x, "a ninth without rows", x.room(0, 1, 0, 1, -1), -1);
        DUE.told(x, "a ninth without layers", x.room(0, 1, 1, 0, -1), -1);
        DUE.told(x, "a ninth in itself", x.room(2, 1, 1, 1, 8), -1);
        DUE.told(x, "a ninth that is not inner in another", x.room(0, 1, 1, 1, 7), -1);
    }

    /** A row is laid where its places are: so one row more makes just these places answer. */
    private static void placesAreNumbered() {
        DUE.says("II", "PLACE x + width (y + rows z)");
        IceTrade x = withRoom(2, 3, 2);
        for (int z = 0; z < 2; z++) {
            for (int y = 0; y < 3; y++) {
                x.lay(0, z, y);
                int first = 2 * (y + 3 * z);
                for (int place = 0; place < 12; place++) {
                    DUE.due("place(0, " + place + ") behind row " + y + " of " + z, x.place(0, place),
                        place < first + 2 ? 0 : -3);
                }
            }
        }
        IceTrade y = withRoom(6, 6, 5);
        DUE.due("the last place of the greatest room", y.place(0, 179), -3);
        DUE.due("a place more", y.place(0, 180), -1);
    }

    private static void roomsOfNone() {
        DUE.says("Promise 3", "-2; -1 for another what", "ROOM");
        IceTrade x = withRoom(1, 1, 1);
        int[] none = {-1, 1, 7, 8, WILD[0], WILD[1]};
        for (int room : none) {
            for (int what = 0; what <= 11; what++) {
                DUE.due("rooms(" + room + ", " + what + ")", x.rooms(room, what), -2);
            }
        }
    }

    private static void roomsOfAnotherWhat() {
        DUE.says("Promise 3", "-2; -1 for another what", "another what");
        IceTrade x = withRoom(1, 1, 1);
        DUE.due("rooms(0, 0)", x.rooms(0, 0), 0);
        DUE.due("rooms(0, 11)", x.rooms(0, 11), 0);
        int[] others = {-1, 12, WILD[0], WILD[1]};
        for (int what : others) {
            DUE.due("rooms(0, " + what + ")", x.rooms(0, what), -1);
            DUE.due("rooms(1, " + what + "): -1 is ahead of -2", x.rooms(1, what), -1);
        }
    }

    private static void whereItIs() {
        DUE.says("Promise 3", "4 in which it is (NONE)");
        IceTrade x = withRoom(1, 1, 1);
        x.room(2, 1, 1, 1, 0);
        x.room(2, 1, 1, 1, 1);
        x.room(2, 1, 1, 1, 0);
        DUE.due("not an inner one", x.rooms(0, 4), -1);
        DUE.due("in 0", x.rooms(1, 4), 0);
        DUE.due("in 1", x.rooms(2, 4), 1);
        DUE.due("in 0", x.rooms(3, 4), 0);
    }

    private static void emptyRooms() {
        DUE.says("Promise 3", "6 BLOCKS, 7 grams in it, 8 LED, 9 STANDING grams, 10 sides in air of its BLOCKS, 11"
            + " FREE ones",
            "an empty ROOM");
        IceTrade x = new IceTrade();
        Due.warm(x, 0, 60f);
        Due.laidRoom(x, 5, 2, 2, 2);
        x.put(0, 0, 0);
        x.put(0, 1, 1);
        x.day();
        for (int what = 6; what <= 11; what++) {
            DUE.due("rooms(0, " + what + ")", x.rooms(0, what), 0);
        }
    }

    private static void fullRooms() {
        DUE.says("Promise 3", "6 BLOCKS, 7 grams in it, 8 LED, 9 STANDING grams, 10 sides in air of its BLOCKS, 11"
            + " FREE ones",
            "a full ROOM");
        IceTrade x = withRoom(6, 6, 5);
        Due.layAll(x, 0);
        for (int place = 0; place < 180; place++) {
            x.cut(0, place, 0, 1000000);
        }
        DUE.due("BLOCKS", x.rooms(0, 6), 180);
        DUE.due("grams", x.rooms(0, 7), 180000000);
        DUE.due("sides in air", x.rooms(0, 10), 2 * 36 + 4 * 30);
        DUE.due("FREE ones", x.rooms(0, 11), 36);
    }

    private static void layLayer() {
        DUE.says("Promise 4", "-1 layer, row; -2 ROOM", "layer");
        IceTrade x = withRoom(1, 6, 2);
        int[] bad = {-1, 2, WILD[0], WILD[1]};
        for (int layer : bad) {
            DUE.told(x, "lay(0, " + layer + ", 0)", x.lay(0, layer, 0), -1);
        }
        DUE.told(x, "lay(0, 0, 0)", x.lay(0, 0, 0), 0);
        DUE.told(x, "lay(0, 1, 0)", x.lay(0, 1, 0), 0);
        DUE.told(x, "lay(0, 2, 0)", x.lay(0, 2, 0), -1);
    }

    private static void layRow() {
        DUE.says("Promise 4", "-1 layer, row; -2 ROOM", "row");
        IceTrade x = withRoom(6, 2, 5);
        int[] bad = {-1, 2, WILD[0], WILD[1]};
        for (int row : bad) {
            DUE.told(x, "lay(0, 0, " + row + ")", x.lay(0, 0, row), -1);
        }
        DUE.told(x, "lay(0, 0, 0)", x.lay(0, 0, 0), 0);
        DUE.told(x, "lay(0, 0, 1)", x.lay(0, 0, 1), 0);
        DUE.told(x, "lay(0, 1, -1)", x.lay(0, 1, -1), -1);
        DUE.told(x, "lay(0, 1, 2)", x.lay(0, 1, 2), -1);
        DUE.due("no row of layer 1 is laid by it", x.place(0, 12), -3);
    }

    private static void layInNoRoom() {
        DUE.says("Promise 4", "-1 layer, row; -2 ROOM", "ROOM; layer, row are looked at where there is the ROOM alone");
        IceTrade x = withRoom(1, 1, 1);
        int[] none = {-1, 1, 8, WILD[0], WILD[1]};
        for (int room : none) {
            DUE.told(x, "lay(" + room + ", 0, 0)", x.lay(room, 0, 0), -2);
            DUE.told(x, "lay(" + room + ", -1, 0)", x.lay(room, -1, 0), -2);
            DUE.told(x, "lay(" + room + ", 0, 9)", x.lay(room, 0, 9), -2);
        }
    }

    private static void laidAlready() {
        DUE.says("Promise 4", "-7 it is already, or not the one beneath", "it is already");
        IceTrade x = withRoom(1, 2, 2);
        x.lay(0, 0, 0);
        DUE.told(x, "lay(0, 0, 0) again", x.lay(0, 0, 0), -7);
        x.lay(0, 1, 0);
        DUE.told(x, "lay(0, 1, 0) again", x.lay(0, 1, 0), -7);
        x.tear(0, 1, 0);
        DUE.told(x, "lay(0, 1, 0) as it was torn", x.lay(0, 1, 0), 0);
    }

    private static void notTheOneBeneath() {
        DUE.says("Promise 4", "-7 it is already, or not the one beneath", "not the one beneath");
        IceTrade x = withRoom(1, 3, 3);
        DUE.told(x, "layer 1 on none", x.lay(0, 1, 1), -7);
        x.lay(0, 0, 0);
        x.lay(0, 0, 2);
        DUE.told(x, "layer 1 beside those beneath", x.lay(0, 1, 1), -7);
        x.lay(0, 0, 1);
        DUE.told(x, "layer 2 on one that has none between", x.lay(0, 2, 1), -7);
        DUE.told(x, "layer 1 on it", x.lay(0, 1, 1), 0);
        DUE.told(x, "layer 2 on that", x.lay(0, 2, 1), 0);
        DUE.told(x, "layer 2 beside it", x.lay(0, 2, 0), -7);
    }

    private static void oneByOne() {
        DUE.says("II", "ROWS are LAID one by one");
        IceTrade x = withRoom(2, 3, 2);
        x.lay(0, 0, 1);
        int[] due = {-3, -3, 0, 0, -3, -3, -3, -3, -3, -3, -3, -3};
        for (int place = 0; place < 12; place++) {
            DUE.due("place(0, " + place + ")", x.place(0, place), due[place]);
        }
    }

    private static void allThirtyRows() {
        DUE.says("II", "1 .. 6 rows (y) in a layer, 1 .. 5 layers (z) from below", "all 30 ROWS");
        IceTrade x = withRoom(6, 6, 5);
        for (int layer = 0; layer < 5; layer++) {
            for (int row = 0; row < 6; row++) {
                DUE.told(x, "lay(0, " + layer + ", " + row + ")", x.lay(0, layer, row), 0);
            }
        }
        DUE.due("the last place", x.place(0, 179), 0);
        for (int layer = 4; layer >= 0; layer--) {
            for (int row = 5; row >= 0; row--) {
                DUE.told(x, "tear(0, " + layer + ", " + row + ")", x.tear(0, layer, row), 0);
            }
        }
        DUE.due("the last place", x.place(0, 179), -3);
    }

    private static void tearLayer() {
        DUE.says("Promise 5", "-1, -2 likewise", "layer");
        IceTrade x = withRoom(1, 6, 2);
        Due.layAll(x, 0);
        int[] bad = {-1, 2, WILD[0], WILD[1]};
        for (int layer : bad) {
            DUE.told(x, "tear(0, " + layer + ", 0)", x.tear(0, layer, 0), -1);
        }
        DUE.told(x, "tear(0, 1, 0)", x.tear(0, 1, 0), 0);
    }

    private static void tearRow() {
        DUE.says("Promise 5", "-1, -2 likewise", "row");
        IceTrade x = withRoom(6, 2, 2);
        Due.layAll(x, 0);
        int[] bad = {-1, 2, WILD[0], WILD[1]};
        for (int row : bad) {
            DUE.told(x, "tear(0, 0, " + row + ")", x.tear(0, 0, row), -1);
            DUE.told(x, "tear(0, 1, " + row + ")", x.tear(0, 1, row), -1);
        }
        DUE.told(x, "tear(0, 1, 1)", x.tear(0, 1, 1), 0);
    }

    private static void tearInNoRoom() {
        DUE.says("Promise 5", "-1, -2 likewise", "ROOM; layer, row are looked at where there is the ROOM alone");
        IceTrade x = withRoom(1, 1, 1);
        x.lay(0, 0, 0);
        int[] none = {-1, 1, 8, WILD[0], WILD[1]};
        for (int room : none) {
            DUE.told(x, "tear(" + room + ", 0, 0)", x.tear(room, 0, 0), -2);
            DUE.told(x, "tear(" + room + ", -1, 0)", x.tear(room, -1, 0), -2);
            DUE.told(x, "tear(" + room + ", 0, 9)", x.tear(room, 0, 9), -2);
        }
    }

    private static void tornAlready() {
        DUE.says("Promise 5", "-3", "the ROW is not LAID");
        IceTrade x = withRoom(1, 2, 2);
        DUE.told(x, "tear(0, 0, 0), never laid", x.tear(0, 0, 0), -3);
        DUE.told(x, "tear(0, 1, 1), never laid", x.tear(0, 1, 1), -3);
        x.lay(0, 0, 0);
        DUE.told(x, "tear(0, 0, 1), the other is laid", x.tear(0, 0, 1), -3);
        DUE.told(x, "tear(0, 1, 0), the one beneath is laid", x.tear(0, 1, 0), -3);
        DUE.told(x, "tear(0, 0, 0)", x.tear(0, 0, 0), 0);
        DUE.told(x, "tear(0, 0, 0) again", x.tear(0, 0, 0), -3);
    }

    private static void holdsSomething() {
        DUE.says("Promise 5", "-7 it holds something, or one above is LAID", "it holds something");
        for (int what = 0; what <= 2; what++) {
            for (int place = 2; place <= 3; place++) {
                IceTrade x = withRoom(2, 3, 1);
                Due.layAll(x, 0);
                int filled = what == 2 ? x.cut(0, place, 0, 1000) : x.put(0, place, what);
                DUE.due("something is in place " + place, filled, 0);
                DUE.told(x, "tear(0, 0, 1)", x.tear(0, 0, 1), -7);
                DUE.due("it is still laid", x.place(0, place) > 0 ? 1 : 0, 1);
                DUE.told(x, "tear(0, 0, 0) holds nothing", x.tear(0, 0, 0), 0);
                DUE.told(x, "tear(0, 0, 2) holds nothing", x.tear(0, 0, 2), 0);
                int freed = what == 2 ? x.take(0, 1) : x.clear(0, place);
                DUE.due("it is taken away", freed, what == 2 ? 1000 : 0);
                DUE.told(x, "tear(0, 0, 1)", x.tear(0, 0, 1), 0);
            }
        }
    }

    private static void oneAboveIsLaid() {
        DUE.says("Promise 5", "-7 it holds something, or one above is LAID", "one above is LAID");
        IceTrade x = withRoom(1, 2, 3);
        Due.layAll(x, 0);
        DUE.told(x, "tear(0, 0, 0) beneath two", x.tear(0, 0, 0), -7);
        DUE.told(x, "tear(0, 1, 0) beneath one", x.tear(0, 1, 0), -7);
        DUE.told(x, "tear(0, 2, 0)", x.tear(0, 2, 0), 0);
        DUE.told(x, "tear(0, 0, 0) beneath one", x.tear(0, 0, 0), -7);
        DUE.told(x, "tear(0, 1, 0)", x.tear(0, 1, 0), 0);
        DUE.told(x, "tear(0, 0, 0)", x.tear(0, 0, 0), 0);
        DUE.told(x, "tear(0, 1, 1): its own column alone counts", x.tear(0, 1, 1), -7);
    }
}
