/** The edges that term II names of what lies in PLACES, and promises 6 to 10, each with its sentence. */
public final class EdgesOfPlacesTest {
    private static final int[] WILD = {Integer.MIN_VALUE, Integer.MAX_VALUE};
    private static final Due DUE = new Due();

    public static void main(String[] args) {
        kindsOfBlocks();
        grams();
        placesToCut();
        cutInNoRoom();
        cutWhereNoRowIs();
        cutWhereSomethingIs();
        cutOnNothing();
        numberedFromNoughtOn();
        threeHundred();
        theOrderOfCut();
        whatIsPut();
        placesToPut();
        putInNoRoom();
        putWhereNoRowIs();
        putWhereSomethingIs();
        putOnNothing();
        noStrawOnCarts();
        noStrawOnFlatBoats();
        theOrderOfPut();
        rightBeneath();
        whatLiesOnOneThatIsGoneStays();
        placesToClear();
        clearInNoRoom();
        clearWhereNoRowIs();
        clearWhatIsNot();
        somethingRightAbove();
        placesThatAreNone();
        placesInNoRoom();
        placesWithoutARow();
        whatIsAtAPlace();
        blocksThatAreNone();
        anotherWhatOfABlock();
        takenOnes();
        goneOnes();
        notSpoilt();
        outOfRooms();
        DUE.end();
    }

    private static IceTrade withRoom(int kind, int width, int rows, int layers) {
        IceTrade x = new IceTrade();
        Due.laidRoom(x, kind, width, rows, layers);
        return x;
    }

    private static void kindsOfBlocks() {
        DUE.says("Promise 6", "A BLOCK of a kind (0 .. 2)", "-1 kind");
        IceTrade x = withRoom(0, 3, 1, 1);
        int[] bad = {-1, 3, WILD[0], WILD[1]};
        for (int kind : bad) {
            DUE.told(x, "kind " + kind, x.cut(0, 0, kind, 1000), -1);
        }
        for (int kind = 0; kind <= 2; kind++) {
            DUE.told(x, "kind " + kind, x.cut(0, kind, kind, 1000), kind);
            DUE.due("block(" + kind + ", 0)", x.block(kind, 0), kind);
        }
    }

    private static void grams() {
        DUE.says("Promise 6", "1000 .. 1000000 grams", "-1 grams");
        IceTrade x = withRoom(0, 2, 1, 1);
        int[] bad = {999, 1000001, 0, -1000, WILD[0], WILD[1]};
        for (int grams : bad) {
            DUE.told(x, grams + " grams", x.cut(0, 0, 0, grams), -1);
        }
        DUE.told(x, "1000 grams", x.cut(0, 0, 0, 1000), 0);
        DUE.told(x, "1000000 grams", x.cut(0, 1, 0, 1000000), 1);
        DUE.due("block(0, 1)", x.block(0, 1), 1000);
        DUE.due("block(1, 1)", x.block(1, 1), 1000000);
        DUE.due("count(1)", x.count(1), 1001000);
    }

    private static void placesToCut() {
        DUE.says("Promise 6", "-1 kind, grams, PLACE", "PLACE");
        IceTrade x = withRoom(0, 3, 2, 1);
        int[] bad = {-1, 6, 179, 180, WILD[0], WILD[1]};
        for (int place : bad) {
            DUE.told(x, "place " + place, x.cut(0, place, 0, 1000), -1);
        }
        DUE.told(x, "place 0", x.cut(0, 0, 0, 1000), 0);
        DUE.told(x, "place 5", x.cut(0, 5, 0, 1000), 1);
        DUE.told(x, "place 6 on them", x.cut(0, 6, 0, 1000), -1);
    }

    private static void cutInNoRoom() {
        DUE.says("Promise 6", "-2 ROOM", "a PLACE is looked at where there is the ROOM alone");
        IceTrade x = withRoom(0, 1, 1, 1);
        int[] none = {-1, 1, 8, WILD[0], WILD[1]};
        for (int room : none) {
            DUE.told(x, "cut in " + room, x.cut(room, 0, 0, 1000), -2);
            DUE.told(x, "cut in " + room + ", no place", x.cut(room, -1, 0, 1000), -2);
            DUE.told(x, "cut in " + room + ", no kind", x.cut(room, 0, 3, 1000), -1);
            DUE.told(x, "cut in " + room + ", no weight", x.cut(room, 0, 0, 999), -1);
        }
    }

    private static void cutWhereNoRowIs() {
        DUE.says("Promise 6", "-3", "the ROW is not LAID");
        IceTrade x = new IceTrade();
        x.room(0, 2, 2, 2, -1);
        x.lay(0, 0, 0);
        DUE.told(x, "a row of the floor", x.cut(0, 2, 0, 1000), -3);
        x.cut(0, 0, 0, 1000);
        DUE.told(x, "a row above a block", x.cut(0, 4, 0, 1000), -3);
        x.lay(0, 1, 0);
        DUE.told(x, "as it is laid", x.cut(0, 4, 0, 1000), 1);
    }

    private static void cutWhereSomethingIs() {
        DUE.says("Promise 6", "-4", "the PLACE is not free");
        IceTrade x = withRoom(0, 3, 1, 1);
        x.cut(0, 0, 0, 1000);
        x.put(0, 1, 0);
        x.put(0, 2, 1);
        DUE.told(x, "where a block is", x.cut(0, 0, 0, 1000), -4);
        DUE.told(x, "where straw is", x.cut(0, 1, 0, 1000), -4);
        DUE.told(x, "where a drain is", x.cut(0, 2, 0, 1000), -4);
        x.take(0, 1);
        DUE.told(x, "where a block was", x.cut(0, 0, 0, 1000), 1);
    }

    private static void cutOnNothing() {
        DUE.says("Promise 6", "-5", "nothing beneath");
        IceTrade x = withRoom(0, 4, 1, 2);
        x.put(0, 1, 1);
        x.put(0, 2, 0);
        x.cut(0, 3, 0, 1000);
        DUE.told(x, "on nothing", x.cut(0, 4, 0, 1000), -5);
        DUE.told(x, "on a drain", x.cut(0, 5, 0, 1000), -5);
        DUE.told(x, "on straw", x.cut(0, 6, 0, 1000), 1);
        DUE.told(x, "on a block", x.cut(0, 7, 0, 1000), 2);
        DUE.told(x, "on the floor", x.cut(0, 0, 0, 1000), 3);
    }

    private static void numberedFromNoughtOn() {
        DUE.says("II", "BLOCKS are numbered from 0 on as they are cut");
        IceTrade x = withRoom(0, 6, 1, 1);
        for (int i = 0; i < 3; i++) {
            DUE.due("cut " + i, x.cut(0, 5 - i, 0, 1000), i);
        }
        x.cut(0, 5, 0, 1000);
        x.take(0, 3);
        DUE.due("refused ones have no number, and taken ones keep theirs", x.cut(0, 0, 0, 1000), 3);
    }

    /** All but one of 300 blocks: 180 in the first room, 119 in the second, whose upper layers are free. */
    private static IceTrade withAllButOne() {
        IceTrade x = withRoom(0, 6, 6, 5);
        Due.laidRoom(x, 0, 6, 6, 5);
        for (int i = 0; i < 299; i++) {
            x.cut(i / 180, i % 180, 0, 1000);
        }
        return x;
    }

    private static void threeHundred() {
        DUE.says("Promise 6", "-6 (300)");
        IceTrade x = withAllButOne();
        DUE.told(x, "the 300th", x.cut(1, 119, 0, 1000), 299);
        DUE.told(x, "one more", x.cut(1, 120, 0, 1000), -6);
        DUE.due("count(8)", x.count(8), 300);
        DUE.due("block(300, 0)", x.block(300, 0), -2);
        DUE.due("its place is free", x.place(1, 120), 0);
        x.take(0, 180);
        DUE.told(x, "those that are taken count", x.cut(0, 0, 0, 1000), -6);
        DUE.told(x, "straw is no block", x.put(0, 0, 0), 0);
    }

    private static void theOrderOfCut() {
        DUE.says("REFUSED", "The first of these in that order", "cut");
        IceTrade x = new IceTrade();
        x.room(0, 2, 1, 2, -1);
        DUE.told(x, "-1 ahead of -3: no such place", x.cut(0, 4, 0, 1000), -1);
        DUE.told(x, "-1 ahead of -3: no such kind", x.cut(0, 0, 3, 1000), -1);
        DUE.told(x, "-3 ahead of -5", x.cut(0, 2, 0, 1000), -3);
        Due.layAll(x, 0);
        x.cut(0, 0, 0, 5000);
        DUE.told(x, "-1 ahead of -4", x.cut(0, 0, 0, 999), -1);
        DUE.told(x, "-1 ahead of -5", x.cut(0, 3, 0, 1000001), -1);
        IceTrade y = withAllButOne();
        y.cut(1, 119, 0, 1000);
        DUE.told(y, "-1 ahead of -6", y.cut(1, 120, 3, 1000), -1);
        DUE.told(y, "-2 ahead of -6", y.cut(2, 120, 0, 1000), -2);
        DUE.told(y, "-4 ahead of -6", y.cut(1, 119, 0, 1000), -4);
        DUE.told(y, "-5 ahead of -6", y.cut(1, 179, 0, 1000), -5);
        y.tear(1, 4, 5);
        DUE.told(y, "-3 ahead of -6", y.cut(1, 179, 0, 1000), -3);
        IceTrade z = withRoom(0, 1, 1, 2);
        z.cut(0, 0, 0, 1000);
        z.cut(0, 1, 0, 5000);
        z.terms(40, 200, 1001);
        z.day();
        DUE.due("the lower one is gone", z.place(0, 0), 0);
        DUE.told(z, "-4 ahead of -5", z.cut(0, 1, 0, 1000), -4);
    }

    private static void whatIsPut() {
        DUE.says("Promise 7", "STRAW is put (what 0), a DRAIN (1): 0. -1 what, PLACE", "what");
        IceTrade x = withRoom(0, 2, 1, 1);
        int[] bad = {-1, 2, WILD[0], WILD[1]};
        for (int what : bad) {
            DUE.told(x, "what " + what, x.put(0, 0, what), -1);
        }
        DUE.told(x, "straw", x.put(0, 0, 0), 0);
        DUE.told(x, "a drain", x.put(0, 1, 1), 0);
        DUE.due("place(0, 0)", x.place(0, 0), 1);
        DUE.due("place(0, 1)", x.place(0, 1), 2);
    }

    private static void placesToPut() {
        DUE.says("Promise 7", "-1 what, PLACE", "PLACE");
        IceTrade x = withRoom(0, 3, 2, 1);
        int[] bad = {-1, 6, 179, 180, WILD[0], WILD[1]};
        for (int place : bad) {
            DUE.told(x, "straw in " + place, x.put(0, place, 0), -1);
            DUE.told(x, "a drain in " + place, x.put(0, place, 1), -1);
        }
        DUE.told(x, "place 0", x.put(0, 0, 0), 0);
        DUE.told(x, "place 5", x.put(0, 5, 0), 0);
    }

    private static void putInNoRoom() {
        DUE.says("Promise 7", "-2", "a PLACE is looked at where there is the ROOM alone");
        IceTrade x = withRoom(0, 1, 1, 1);
        int[] none = {-1, 1, 8, WILD[0], WILD[1]};
        for (int room : none) {
            DUE.told(x, "put in " + room, x.put(room, 0, 0), -2);
            DUE.told(x, "put in " + room + ", no place", x.put(room, -1, 1), -2);
            DUE.told(x, "put in " + room + ", another what", x.put(room, 0, 2), -1);
        }
    }

    private static void putWhereNoRowIs() {
        DUE.says("Promise 7", "-3", "the ROW is not LAID");
        IceTrade x = new IceTrade();
        x.room(0, 2, 2, 2, -1);
        x.lay(0, 0, 0);
        DUE.told(x, "straw", x.put(0, 2, 0), -3);
        DUE.told(x, "a drain", x.put(0, 3, 1), -3);
        x.cut(0, 0, 0, 1000);
        DUE.told(x, "straw on a block", x.put(0, 4, 0), -3);
        x.lay(0, 1, 0);
        DUE.told(x, "as the row is laid", x.put(0, 4, 0), 0);
    }

    private static void putWhereSomethingIs() {
        DUE.says("Promise 7", "-4", "the PLACE is not free");
        IceTrade x = withRoom(0, 3, 1, 1);
        x.cut(0, 0, 0, 1000);
        x.put(0, 1, 0);
        x.put(0, 2, 1);
        for (int place = 0; place < 3; place++) {
            DUE.told(x, "straw in " + place, x.put(0, place, 0), -4);
            DUE.told(x, "a drain in " + place, x.put(0, place, 1), -4);
        }
        x.clear(0, 1);
        DUE.told(x, "where straw was", x.put(0, 1, 1), 0);
    }

    private static void putOnNothing() {
        DUE.says("Promise 7", "-5", "nothing beneath");
        for (int what = 0; what <= 1; what++) {
            IceTrade x = withRoom(0, 4, 1, 2);
            x.put(0, 1, 1);
            x.put(0, 2, 0);
            x.cut(0, 3, 0, 1000);
            DUE.told(x, what + " on nothing", x.put(0, 4, what), -5);
            DUE.told(x, what + " on a drain", x.put(0, 5, what), -5);
            DUE.told(x, what + " on straw", x.put(0, 6, what), 0);
            DUE.told(x, what + " on a block", x.put(0, 7, what), 0);
            DUE.told(x, what + " on the floor", x.put(0, 0, what), 0);
        }
    }

    private static void noStrawOnCarts() {
        DUE.says("II", "No STRAW is put on a CART", "Promise 7: -7 where no STRAW may be");
        for (int layers = 1; layers <= 5; layers += 2) {
            IceTrade x = withRoom(4, 2, 1, layers);
            DUE.told(x, "straw on a cart of " + layers, x.put(0, 0, 0), -7);
            DUE.told(x, "a drain on a cart of " + layers, x.put(0, 1, 1), 0);
            DUE.due("place(0, 0)", x.place(0, 0), 0);
        }
        IceTrade x = new IceTrade();
        x.room(4, 1, 1, 1, -1);
        x.room(2, 1, 1, 1, 0);
        Due.layAll(x, 1);
        DUE.told(x, "a room on a cart is none", x.put(1, 0, 0), 0);
    }

    private static void noStrawOnFlatBoats() {
        DUE.says("II", "nor on BOATS of one layer", "Promise 7: -7 where no STRAW may be");
        for (int layers = 1; layers <= 5; layers++) {
            IceTrade x = withRoom(3, 2, 1, layers);
            DUE.told(x, "straw on a boat of " + layers, x.put(0, 0, 0), layers == 1 ? -7 : 0);
            DUE.told(x, "a drain on a boat of " + layers, x.put(0, 1, 1), 0);
        }
        int[] others = {0, 1, 5};
        for (int kind : others) {
            IceTrade x = withRoom(kind, 1, 1, 1);
            DUE.told(x, "straw in kind " + kind, x.put(0, 0, 0), 0);
        }
    }

    private static void theOrderOfPut() {
        DUE.says("REFUSED", "The first of these in that order", "put");
        IceTrade x = new IceTrade();
        x.room(4, 2, 1, 2, -1);
        DUE.told(x, "-1 ahead of -3: another what", x.put(0, 0, 2), -1);
        DUE.told(x, "-1 ahead of -3: no such place", x.put(0, 4, 0), -1);
        DUE.told(x, "-3 ahead of -5 and -7", x.put(0, 2, 0), -3);
        Due.layAll(x, 0);
        DUE.told(x, "-5 ahead of -7", x.put(0, 2, 0), -5);
        x.put(0, 0, 1);
        DUE.told(x, "-4 ahead of -7", x.put(0, 0, 0), -4);
        DUE.told(x, "-1 ahead of -7", x.put(0, 1, 2), -1);
        IceTrade y = withRoom(0, 1, 1, 2);
        y.cut(0, 0, 0, 1000);
        y.cut(0, 1, 0, 5000);
        y.terms(40, 200, 1001);
        y.day();
        DUE.told(y, "-4 ahead of -5", y.put(0, 1, 1), -4);
    }

    private static void rightBeneath() {
        DUE.says("II", "What is put needs its ROW LAID, its PLACE free, and the floor (layer 0), a BLOCK or STRAW"
            + " right beneath",
            "right beneath");
        IceTrade x = withRoom(0, 2, 1, 3);
        x.cut(0, 0, 0, 1000);
        DUE.told(x, "a block two beneath is not enough", x.cut(0, 4, 0, 1000), -5);
        DUE.told(x, "nor for straw", x.put(0, 4, 0), -5);
        DUE.told(x, "nor one askew beneath", x.cut(0, 3, 0, 1000), -5);
        DUE.told(x, "right beneath", x.put(0, 2, 0), 0);
        DUE.told(x, "right beneath", x.cut(0, 4, 0, 1000), 1);
    }

    private static void whatLiesOnOneThatIsGoneStays() {
        DUE.says("II", "(What lies on one that is gone or taken stays.)");
        IceTrade x = withRoom(0, 3, 1, 2);
        for (int place = 0; place < 3; place++) {
            x.cut(0, place, 0, 1000);
        }
        x.cut(0, 3, 0, 5000);
        x.put(0, 4, 0);
        x.put(0, 5, 1);
        x.terms(40, 200, 1001);
        x.day();
        int[] due = {0, 0, 0, 13, 1, 2};
        for (int place = 0; place < 6; place++) {
            DUE.due("place(0, " + place + ")", x.place(0, place), due[place]);
        }
        IceTrade y = withRoom(0, 2, 1, 2);
        y.cut(0, 0, 0, 5000);
        y.cut(0, 1, 0, 5000);
        y.put(0, 2, 0);
        y.put(0, 3, 1);
        y.take(0, 2);
        DUE.due("straw on a taken one", y.place(0, 2), 1);
        DUE.due("a drain on a taken one", y.place(0, 3), 2);
        DUE.due("place(0, 0)", y.place(0, 0), 0);
    }

    private static void placesToClear() {
        DUE.says("Promise 8", "-1, -2 likewise", "PLACE");
        IceTrade x = withRoom(0, 3, 2, 1);
        x.put(0, 0, 0);
        x.put(0, 5, 0);
        int[] bad = {-1, 6, 179, 180, WILD[0], WILD[1]};
        for (int place : bad) {
            DUE.told(x, "clear(0, " + place + ")", x.clear(0, place), -1);
        }
        DUE.told(x, "clear(0, 0)", x.clear(0, 0), 0);
        DUE.told(x, "clear(0, 5)", x.clear(0, 5), 0);
    }

    private static void clearInNoRoom() {
        DUE.says("Promise 8", "-1, -2 likewise", "ROOM; a PLACE is looked at where there is the ROOM alone");
        IceTrade x = withRoom(0, 1, 1, 1);
        x.put(0, 0, 0);
        int[] none = {-1, 1, 8, WILD[0], WILD[1]};
        for (int room : none) {
            DUE.told(x, "clear(" + room + ", 0)", x.clear(room, 0), -2);
            DUE.told(x, "clear(" + room + ", -1)", x.clear(room, -1), -2);
        }
    }

    private static void clearWhereNoRowIs() {
        DUE.says("Promise 8", "-3", "the ROW is not LAID");
        IceTrade x = new IceTrade();
        x.room(0, 2, 1, 2, -1);
        DUE.told(x, "a row of the floor", x.clear(0, 0), -3);
        x.lay(0, 0, 0);
        DUE.told(x, "a row above", x.clear(0, 2), -3);
        DUE.told(x, "-1 ahead of -3", x.clear(0, 4), -1);
    }

    private static void clearWhatIsNot() {
        DUE.says("Promise 8", "-7 there is none, or something lies right above", "there is none");
        IceTrade x = withRoom(0, 4, 1, 1);
        x.cut(0, 1, 0, 1000);
        x.put(0, 2, 0);
        x.put(0, 3, 1);
        DUE.told(x, "nothing", x.clear(0, 0), -7);
        DUE.told(x, "a block", x.clear(0, 1), -7);
        DUE.told(x, "straw", x.clear(0, 2), 0);
        DUE.told(x, "straw no more", x.clear(0, 2), -7);
        DUE.told(x, "a drain", x.clear(0, 3), 0);
        DUE.told(x, "a drain no more", x.clear(0, 3), -7);
        DUE.due("the block is there", x.place(0, 1), 10);
    }

    private static void somethingRightAbove() {
        DUE.says("Promise 8", "-7 there is none, or something lies right above", "something lies right above");
        for (int what = 0; what <= 2; what++) {
            IceTrade x = withRoom(0, 1, 1, 3);
            x.put(0, 0, 0);
            int filled = what == 2 ? x.cut(0, 1, 0, 1000) : x.put(0, 1, what);
            DUE.due("something is on the straw", filled, 0);
            DUE.told(x, "straw beneath " + what, x.clear(0, 0), -7);
            int freed = what == 2 ? x.take(0, 1) : x.clear(0, 1);
            DUE.due("it is taken away", freed, what == 2 ? 1000 : 0);
            DUE.told(x, "straw beneath nothing", x.clear(0, 0), 0);
        }
        IceTrade y = withRoom(0, 1, 1, 3);
        y.put(0, 0, 0);
        y.cut(0, 1, 0, 1000);
        y.cut(0, 2, 0, 5000);
        y.terms(40, 200, 1001);
        y.day();
        DUE.due("the block in the middle is gone", y.place(0, 1), 0);
        DUE.told(y, "one two above does not lie right above", y.clear(0, 0), 0);
        IceTrade z = withRoom(0, 1, 1, 2);
        z.cut(0, 0, 0, 1000);
        z.cut(0, 1, 0, 5000);
        z.terms(40, 200, 1001);
        z.day();
        z.put(0, 0, 1);
        DUE.told(z, "a drain that came beneath a block", z.clear(0, 0), -7);
        IceTrade v = withRoom(0, 2, 1, 2);
        v.put(0, 0, 0);
        v.put(0, 1, 0);
        v.cut(0, 3, 0, 1000);
        DUE.told(v, "one askew above does not lie right above", v.clear(0, 0), 0);
    }

    private static void placesThatAreNone() {
        DUE.says("Promise 9", "-1", "PLACE");
        IceTrade x = withRoom(0, 3, 2, 2);
        int[] bad = {-1, 12, 179, 180, WILD[0], WILD[1]};
        for (int place : bad) {
            DUE.due("place(0, " + place + ")", x.place(0, place), -1);
        }
        DUE.due("place(0, 0)", x.place(0, 0), 0);
        DUE.due("place(0, 11)", x.place(0, 11), 0);
    }

    private static void placesInNoRoom() {
        DUE.says("Promise 9", "-2", "a PLACE is looked at where there is the ROOM alone");
        IceTrade x = withRoom(0, 1, 1, 1);
        int[] none = {-1, 1, 8, WILD[0], WILD[1]};
        for (int room : none) {
            DUE.due("place(" + room + ", 0)", x.place(room, 0), -2);
            DUE.due("place(" + room + ", -1)", x.place(room, -1), -2);
        }
    }

    private static void placesWithoutARow() {
        DUE.says("Promise 9", "-3", "the ROW is not LAID");
        IceTrade x = new IceTrade();
        x.room(0, 2, 2, 2, -1);
        DUE.due("place(0, 0)", x.place(0, 0), -3);
        DUE.due("place(0, 8): -1 is ahead of it", x.place(0, 8), -1);
        x.lay(0, 0, 1);
        int[] due = {-3, -3, 0, 0, -3, -3, -3, -3};
        for (int place = 0; place < 8; place++) {
            DUE.due("place(0, " + place + ")", x.place(0, place), due[place]);
        }
        x.tear(0, 0, 1);
        DUE.due("place(0, 2), torn", x.place(0, 2), -3);
    }

    private static void whatIsAtAPlace() {
        DUE.says("Promise 9", "0 nothing, 1 STRAW, 2 a DRAIN, 10 and a BLOCK's number");
        IceTrade x = withAllButOne();
        x.cut(1, 119, 0, 1000);
        DUE.due("the first block", x.place(0, 0), 10);
        DUE.due("the last block", x.place(1, 119), 309);
        DUE.due("nothing", x.place(1, 120), 0);
        x.put(1, 120, 0);
        x.put(1, 121, 1);
        DUE.due("straw", x.place(1, 120), 1);
        DUE.due("a drain", x.place(1, 121), 2);
    }

    private static void blocksThatAreNone() {
        DUE.says("Promise 10", "-2; -1 for another what", "BLOCK");
        IceTrade x = withRoom(0, 2, 1, 1);
        x.cut(0, 0, 0, 1000);
        int[] none = {-1, 1, 299, 300, WILD[0], WILD[1]};
        for (int block : none) {
            for (int what = 0; what <= 9; what++) {
                DUE.due("block(" + block + ", " + what + ")", x.block(block, what), -2);
            }
        }
        DUE.due("block(0, 0)", x.block(0, 0), 0);
        x.cut(0, 1, 2, 1000);
        DUE.due("block(1, 0)", x.block(1, 0), 2);
    }

    private static void anotherWhatOfABlock() {
        DUE.says("Promise 10", "-2; -1 for another what", "another what");
        IceTrade x = withRoom(0, 2, 1, 1);
        x.cut(0, 0, 0, 1000);
        DUE.due("block(0, 0)", x.block(0, 0), 0);
        DUE.due("block(0, 9)", x.block(0, 9), 1);
        int[] others = {-1, 10, WILD[0], WILD[1]};
        for (int what : others) {
            DUE.due("block(0, " + what + ")", x.block(0, what), -1);
            DUE.due("block(1, " + what + "): -1 is ahead of -2", x.block(1, what), -1);
        }
    }

    private static void takenOnes() {
        DUE.says("Promise 10", "1 grams (of a TAKEN one what it weighed then, 0 of one that is GONE), 2 ROOM"
            + " (NONE: TAKEN or GONE), 3 PLACE (NONE)",
            "TAKEN");
        IceTrade x = withRoom(0, 3, 1, 1);
        Due.warm(x, 0, 1f);
        x.cut(0, 2, 0, 5000);
        x.day();
        DUE.due("its room", x.block(0, 2), 0);
        DUE.due("its place", x.block(0, 3), 2);
        x.take(0, 1);
        x.day();
        DUE.due("its grams", x.block(0, 1), 5000 - 180);
        DUE.due("its room", x.block(0, 2), -1);
        DUE.due("its place", x.block(0, 3), -1);
    }

    private static void goneOnes() {
        DUE.says("Promise 10", "1 grams (of a TAKEN one what it weighed then, 0 of one that is GONE), 2 ROOM"
            + " (NONE: TAKEN or GONE), 3 PLACE (NONE)",
            "GONE");
        IceTrade x = withRoom(0, 3, 1, 1);
        Due.warm(x, 0, 1f);
        x.cut(0, 2, 0, 1100);
        x.day();
        DUE.due("its grams", x.block(0, 1), 0);
        DUE.due("its room", x.block(0, 2), -1);
        DUE.due("its place", x.block(0, 3), -1);
    }

    private static void notSpoilt() {
        DUE.says("Promise 10", "5 SPOILT: the first day (NONE)");
        IceTrade x = withRoom(0, 2, 1, 1);
        x.cut(0, 0, 1, 50000);
        x.day();
        DUE.due("not spoilt", x.block(0, 5), -1);
        x.cut(0, 1, 2, 50000);
        DUE.due("not yet", x.block(0, 5), -1);
        x.day();
        DUE.due("on day 1", x.block(0, 5), 1);
        x.day();
        DUE.due("the first day", x.block(0, 5), 1);
        IceTrade y = withRoom(5, 1, 1, 1);
        y.cut(0, 0, 1, 50000);
        y.day();
        DUE.due("on day 0", y.block(0, 5), 0);
    }

    private static void outOfRooms() {
        DUE.says("Promise 10", "(6 to 8: 0 out of ROOMS), 9 1 if it is FREE, else 0");
        IceTrade x = withRoom(5, 3, 1, 1);
        Due.warm(x, 0, 10f);
        x.cut(0, 0, 0, 50000);
        x.put(0, 1, 0);
        x.cut(0, 2, 0, 1000);
        DUE.due("sides in air", x.block(0, 6), 5);
        DUE.due("sides in straw", x.block(0, 7), 1);
        DUE.due("loss", x.block(0, 8), 5 * 270 + 108 + 200);
        DUE.due("free", x.block(0, 9), 1);
        x.day();
        x.take(0, 1);
        for (int what = 6; what <= 9; what++) {
            DUE.due("taken block(0, " + what + ")", x.block(0, what), 0);
            DUE.due("gone block(1, " + what + ")", x.block(1, what), 0);
        }
    }
}
