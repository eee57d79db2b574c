/** The edges that term VI and promises 28 and 29 name, each with its sentence. */
public final class EdgesOfPackingTest {
    private static final int[] WILD = {Integer.MIN_VALUE, Integer.MAX_VALUE};
    private static final Due DUE = new Due();

    public static void main(String[] args) {
        thirtyInAHeap();
        kindsInAHeap();
        gramsInAHeap();
        theOrderOfHeap();
        atMostEight();
        widthAtMostThree();
        rowsAtMostThree();
        layersAtMostTwo();
        theFewestSidesInAir();
        theFirstOfThese();
        mostSidesShut();
        somethingToLieOn();
        theFirstToldToTheLowest();
        theyAreCutThen();
        oneBlock();
        aFullRoom();
        oneBehindTheOther();
        packInNoRoom();
        notSoManyPlaces();
        notSoManyBlocksEver();
        theHeapIsEmpty();
        aRowIsNotLaid();
        theRoomHoldsSomething();
        theOrderOfPack();
        refusedOnesKeepTheHeap();
        DUE.end();
    }

    private static void heap(IceTrade x, int n) {
        for (int i = 0; i < n; i++) {
            x.heap(0, 1000 + i);
        }
    }

    /** Packs n blocks into a room of its own: they must lie in these places, and so many sides be in air. */
    private static void packed(int width, int rows, int layers, int n, int air, int... places) {
        IceTrade x = new IceTrade();
        Due.laidRoom(x, 0, width, rows, layers);
        heap(x, n);
        String call = n + " in " + width + " by " + rows + " by " + layers;
        DUE.told(x, call, x.pack(0), air);
        DUE.due(call + ": sides in air", x.rooms(0, 10), air);
        DUE.due(call + ": blocks", x.rooms(0, 6), n);
        for (int i = 0; i < places.length; i++) {
            DUE.due(call + ": place " + places[i], x.place(0, places[i]), 10 + i);
        }
    }

    private static void thirtyInAHeap() {
        DUE.says("VI", "HEAP: up to 30 weights and kinds that are told for pack()", "Promise 28: -6");
        IceTrade x = new IceTrade();
        for (int i = 1; i <= 30; i++) {
            DUE.told(x, "heap " + i, x.heap(i % 3, 1000 * i), i);
        }
        DUE.told(x, "one more", x.heap(0, 1000), -6);
        DUE.due("count(14)", x.count(14), 30);
        Due.laidRoom(x, 0, 6, 6, 1);
        x.pack(0);
        DUE.due("the last one told is the thirtieth", x.block(29, 1), 30000);
        DUE.told(x, "the first of a new heap", x.heap(0, 1000), 1);
    }

    private static void kindsInAHeap() {
        DUE.says("Promise 28", "A weight and kind more for the HEAP: how many; -1; -6", "kind");
        IceTrade x = new IceTrade();
        int[] bad = {-1, 3, WILD[0], WILD[1]};
        for (int kind : bad) {
            DUE.told(x, "heap(" + kind + ", 1000)", x.heap(kind, 1000), -1);
        }
        for (int kind = 0; kind <= 2; kind++) {
            DUE.told(x, "heap(" + kind + ", 1000)", x.heap(kind, 1000), kind + 1);
        }
    }

    private static void gramsInAHeap() {
        DUE.says("Promise 28", "A weight and kind more for the HEAP: how many; -1; -6",
            "weight, 1000 to 1000000 as of cut()");
        IceTrade x = new IceTrade();
        int[] bad = {999, 1000001, 0, -1000, WILD[0], WILD[1]};
        for (int grams : bad) {
            DUE.told(x, "heap(0, " + grams + ")", x.heap(0, grams), -1);
        }
        DUE.told(x, "heap(0, 1000)", x.heap(0, 1000), 1);
        DUE.told(x, "heap(0, 1000000)", x.heap(0, 1000000), 2);
        DUE.due("count(14)", x.count(14), 2);
    }

    private static void theOrderOfHeap() {
        DUE.says("REFUSED", "The first of these in that order", "heap: -1 ahead of -6");
        IceTrade x = new IceTrade();
        heap(x, 30);
        DUE.told(x, "one more of no kind", x.heap(3, 1000), -1);
        DUE.told(x, "one more without weight", x.heap(0, 999), -1);
    }

    private static void atMostEight() {
        DUE.says("VI", "with at most 8 BLOCKS, [..] all ways are gone through [..]; else BLOCK by BLOCK", "8 and 9 BLOCKS");
        packed(3, 2, 2, 7, 24, 0, 1, 3, 4, 6, 7, 9);
        packed(3, 2, 2, 8, 24, 0, 1, 3, 4, 6, 7, 9, 10);
        packed(3, 2, 2, 9, 30, 0, 1, 2, 3, 4, 5, 6, 7, 8);
        packed(3, 3, 2, 8, 24, 0, 1, 3, 4, 9, 10, 12, 13);
        packed(3, 3, 2, 9, 30, 0, 1, 2, 3, 4, 5, 6, 7, 8);
    }

    private static void widthAtMostThree() {
        DUE.says("VI", "width and rows at most 3", "width 3 and 4");
        packed(3, 1, 2, 4, 16, 0, 1, 3, 4);
        packed(4, 1, 2, 4, 18, 0, 1, 2, 3);
        packed(6, 1, 2, 4, 18, 0, 1, 2, 3);
    }

    private static void rowsAtMostThree() {
        DUE.says("VI", "width and rows at most 3", "rows 3 and 4");
        packed(1, 3, 2, 4, 16, 0, 1, 3, 4);
        packed(1, 4, 2, 4, 18, 0, 1, 2, 3);
        packed(1, 6, 2, 4, 18, 0, 1, 2, 3);
    }

    private static void layersAtMostTwo() {
        DUE.says("VI", "layers at most 2", "layers 2 and 3");
        packed(3, 1, 2, 4, 16, 0, 1, 3, 4);
        packed(3, 1, 3, 4, 18, 0, 1, 2, 3);
        packed(3, 3, 1, 4, 16, 0, 1, 3, 4);
        packed(3, 3, 5, 4, 18, 0, 1, 2, 3);
    }

    private static void theFewestSidesInAir() {
        DUE.says("VI", "that with the fewest sides in air together");
        packed(3, 3, 2, 4, 16, 0, 1, 3, 4);
        packed(3, 3, 2, 7, 24, 0, 1, 3, 4, 9, 10, 12);
        packed(2, 2, 2, 8, 24, 0, 1, 2, 3, 4, 5, 6, 7);
        packed(1, 1, 2, 2, 10, 0, 1);
    }

    private static void theFirstOfThese() {
        DUE.says("VI", "of these the FIRST (that whose PLACES, in their order, are the lower ones where they differ first)");
        packed(3, 3, 2, 1, 6, 0);
        // 0 and 1, 0 and 3, or 0 and 9 have ten sides in air each
        packed(3, 3, 2, 2, 10, 0, 1);
        // a row, a corner, or a pile: 14 each
        packed(3, 3, 2, 3, 14, 0, 1, 2);
        // 0 1 2 3 4 and 0 1 2 9 10 alike, and 0 1 3 4 with any other one
        packed(3, 3, 2, 5, 20, 0, 1, 2, 3, 4);
        packed(3, 3, 2, 6, 22, 0, 1, 2, 3, 4, 5);
    }

    private static void mostSidesShut() {
        DUE.says("VI", "else BLOCK by BLOCK in the PLACE with something to lie on that has the most sides shut"
            + " then, of these the lowest one");
        // as many sides are shut in the lowest free place as in any other: the floor fills row by row, then layer 1
        packed(5, 2, 1, 6, 26, 0, 1, 2, 3, 4, 5);
        packed(5, 2, 1, 7, 28, 0, 1, 2, 3, 4, 5, 6);
        packed(4, 4, 2, 5, 22, 0, 1, 2, 3, 4);
        packed(4, 4, 2, 17, 52, 0, 1, 2, 3, 4, 5, 6, 7, 8, 9, 10, 11, 12, 13, 14, 15, 16);
        packed(1, 4, 3, 5, 22, 0, 1, 2, 3, 4);
        packed(6, 6, 5, 30, 82, 0, 1, 2, 3, 4, 5, 6, 7, 8, 9);
    }

    private static void somethingToLieOn() {
        DUE.says("VI", "each on the floor or on another one");
        packed(1, 1, 5, 3, 14, 0, 1, 2);
        packed(1, 1, 5, 5, 22, 0, 1, 2, 3, 4);
        packed(2, 1, 2, 3, 14, 0, 1, 2);
        IceTrade x = new IceTrade();
        Due.laidRoom(x, 0, 3, 1, 2);
        heap(x, 4);
        x.pack(0);
        for (int place = 3; place < 6; place++) {
            boolean lies = x.place(0, place) >= 10;
            DUE.holds("place " + place + " has one beneath", !lies || x.place(0, place - 3) >= 10);
        }
    }

    private static void theFirstToldToTheLowest() {
        DUE.says("VI", "The HEAP's BLOCKS come to these PLACES, the first one told to the lowest one, and so on");
        IceTrade x = new IceTrade();
        Due.laidRoom(x, 0, 3, 3, 2);
        int[] kinds = {2, 0, 1, 2};
        int[] grams = {9000, 1000, 1000000, 5000};
        for (int i = 0; i < 4; i++) {
            x.heap(kinds[i], grams[i]);
        }
        x.pack(0);
        int[] places = {0, 1, 3, 4};
        for (int i = 0; i < 4; i++) {
            DUE.due("kind of " + i, x.block(i, 0), kinds[i]);
            DUE.due("grams of " + i, x.block(i, 1), grams[i]);
            DUE.due("place of " + i, x.block(i, 3), places[i]);
        }
    }

    private static void theyAreCutThen() {
        DUE.says("VI", "They are cut then", "Promise 29: and empty then");
        IceTrade x = new IceTrade();
        Due.laidRoom(x, 0, 1, 1, 1);
        Due.laidRoom(x, 0, 2, 1, 1);
        x.cut(0, 0, 0, 1000);
        Due.days(x, 3);
        x.heap(1, 2000);
        x.heap(2, 3000);
        DUE.due("grams cut", x.count(1), 1000);
        DUE.told(x, "pack(1)", x.pack(1), 10);
        DUE.due("grams cut", x.count(1), 6000);
        DUE.due("blocks ever", x.count(8), 3);
        DUE.due("the heap", x.count(14), 0);
        for (int block = 1; block <= 2; block++) {
            DUE.due("its room", x.block(block, 2), 1);
            DUE.due("its place", x.block(block, 3), block - 1);
            DUE.due("its day", x.block(block, 4), 3);
            DUE.due("not spoilt", x.block(block, 5), -1);
        }
        DUE.told(x, "pack(1) again", x.pack(1), -7);
    }

    private static void oneBlock() {
        DUE.says("Promise 29", "how many sides of its BLOCKS are in air", "one BLOCK");
        packed(1, 1, 1, 1, 6, 0);
        packed(6, 6, 5, 1, 6, 0);
    }

    private static void aFullRoom() {
        DUE.says("Promise 29", "how many sides of its BLOCKS are in air", "a full ROOM");
        packed(3, 3, 2, 18, 2 * 9 + 4 * 6, 0, 1, 2, 3, 4, 5, 6, 7, 8, 9, 10, 11, 12, 13, 14, 15, 16, 17);
        packed(5, 6, 1, 30, 2 * 30 + 2 * 11);
        packed(3, 2, 5, 30, 2 * 6 + 5 * 10);
        packed(2, 2, 2, 8, 24, 0, 1, 2, 3, 4, 5, 6, 7);
    }

    /** What an earlier pack() chose has no part in a later one, of whichever of both ways they are. */
    private static void oneBehindTheOther() {
        DUE.says("Promise 29", "The HEAP is PACKED into a ROOM, and empty then", "one HEAP behind the other");
        IceTrade x = new IceTrade();
        Due.laidRoom(x, 0, 5, 2, 1);
        Due.laidRoom(x, 0, 4, 2, 1);
        Due.laidRoom(x, 0, 3, 1, 2);
        heap(x, 9);
        DUE.told(x, "nine block by block", x.pack(0), 32);
        heap(x, 2);
        DUE.told(x, "two block by block", x.pack(1), 10);
        DUE.due("in place 0", x.place(1, 0), 19);
        DUE.due("in place 1", x.place(1, 1), 20);
        DUE.due("in place 2", x.place(1, 2), 0);
        heap(x, 4);
        DUE.told(x, "four by all ways", x.pack(2), 16);
        x.take(1, 2);
        heap(x, 1);
        DUE.told(x, "one block by block", x.pack(1), 6);
        DUE.due("in place 0", x.place(1, 0), 25);
        DUE.due("in place 3", x.place(1, 3), 0);
    }

    private static void packInNoRoom() {
        DUE.says("Promise 29", "-2");
        IceTrade x = new IceTrade();
        heap(x, 1);
        DUE.told(x, "pack(0) without any", x.pack(0), -2);
        Due.laidRoom(x, 0, 1, 1, 1);
        int[] none = {-1, 1, 8, WILD[0], WILD[1]};
        for (int room : none) {
            DUE.told(x, "pack(" + room + ")", x.pack(room), -2);
        }
        DUE.told(x, "pack(0)", x.pack(0), 6);
    }

    private static void notSoManyPlaces() {
        DUE.says("Promise 29", "-6: not so many PLACES, or BLOCKS ever", "PLACES");
        IceTrade x = new IceTrade();
        Due.laidRoom(x, 0, 2, 2, 1);
        Due.laidRoom(x, 0, 5, 1, 1);
        heap(x, 5);
        DUE.told(x, "five in four", x.pack(0), -6);
        DUE.due("the heap is as it was", x.count(14), 5);
        DUE.told(x, "five in five", x.pack(1), 22);
        heap(x, 4);
        DUE.told(x, "four in four", x.pack(0), 16);
    }

    private static void notSoManyBlocksEver() {
        DUE.says("Promise 29", "-6: not so many PLACES, or BLOCKS ever", "BLOCKS ever");
        IceTrade x = new IceTrade();
        Due.laidRoom(x, 0, 6, 6, 5);
        Due.laidRoom(x, 0, 6, 6, 5);
        for (int i = 0; i < 297; i++) {
            x.cut(i / 180, i % 180, 0, 1000);
        }
        Due.laidRoom(x, 0, 2, 2, 1);
        heap(x, 4);
        DUE.told(x, "four more than 297", x.pack(2), -6);
        DUE.due("nothing is cut", x.count(8), 297);
        IceTrade y = new IceTrade();
        Due.laidRoom(y, 0, 6, 6, 5);
        Due.laidRoom(y, 0, 6, 6, 5);
        for (int i = 0; i < 297; i++) {
            y.cut(i / 180, i % 180, 0, 1000);
        }
        Due.laidRoom(y, 0, 2, 2, 1);
        heap(y, 3);
        DUE.told(y, "three more than 297", y.pack(2), 14);
        DUE.due("blocks ever", y.count(8), 300);
        y.heap(0, 1000);
        y.take(2, 3);
        DUE.told(y, "one more than 300, though three are taken", y.pack(2), -6);
    }

    private static void theHeapIsEmpty() {
        DUE.says("Promise 29", "-7: the HEAP is empty, a ROW is not LAID, or the ROOM holds something", "the HEAP is empty");
        IceTrade x = new IceTrade();
        Due.laidRoom(x, 0, 2, 1, 1);
        DUE.told(x, "pack(0)", x.pack(0), -7);
        x.heap(0, 1000);
        DUE.told(x, "pack(0) of one", x.pack(0), 6);
        x.take(0, 1);
        DUE.told(x, "pack(0) of none again", x.pack(0), -7);
    }

    private static void aRowIsNotLaid() {
        DUE.says("Promise 29", "-7: the HEAP is empty, a ROW is not LAID, or the ROOM holds something", "a ROW is not LAID");
        for (int missing = 0; missing < 3; missing++) {
            IceTrade x = new IceTrade();
            x.room(0, 2, 3, 2, -1);
            x.heap(0, 1000);
            DUE.told(x, "no row", x.pack(0), -7);
            Due.layAll(x, 0);
            x.tear(0, 1, missing);
            DUE.told(x, "all but one of the upper layer", x.pack(0), -7);
            x.tear(0, 0, missing);
            DUE.told(x, "all but one in both layers", x.pack(0), -7);
            x.lay(0, 0, missing);
            x.lay(0, 1, missing);
            DUE.told(x, "all rows", x.pack(0), 6);
        }
        IceTrade y = new IceTrade();
        Due.laidRoom(y, 0, 1, 6, 5);
        y.tear(0, 4, 5);
        y.heap(0, 1000);
        DUE.told(y, "29 of 30 rows", y.pack(0), -7);
        y.lay(0, 4, 5);
        DUE.told(y, "30 rows", y.pack(0), 6);
    }

    private static void theRoomHoldsSomething() {
        DUE.says("Promise 29", "-7: the HEAP is empty, a ROW is not LAID, or the ROOM holds something",
            "the ROOM holds something");
        for (int what = 0; what <= 2; what++) {
            for (int place = 0; place < 6; place++) {
                IceTrade x = new IceTrade();
                Due.laidRoom(x, 0, 3, 2, 1);
                Due.laidRoom(x, 0, 3, 2, 1);
                x.put(1, 0, 0);
                x.heap(0, 1000);
                int filled = what == 2 ? x.cut(0, place, 0, 1000) : x.put(0, place, what);
                DUE.due("something is in place " + place, filled, 0);
                DUE.told(x, "pack(0)", x.pack(0), -7);
                int freed = what == 2 ? x.take(0, 1) : x.clear(0, place);
                DUE.due("it is taken away", freed, what == 2 ? 1000 : 0);
                DUE.told(x, "pack(0) of a bare room", x.pack(0), 6);
            }
        }
        IceTrade y = new IceTrade();
        Due.laidRoom(y, 0, 1, 1, 5);
        for (int place = 0; place < 5; place++) {
            y.cut(0, place, 0, place == 4 ? 5000 : 1000);
        }
        y.terms(40, 200, 1001);
        y.day();
        y.heap(0, 1000);
        DUE.told(y, "one that stayed in the highest layer", y.pack(0), -7);
        IceTrade z = new IceTrade();
        Due.laidRoom(z, 0, 1, 6, 5);
        for (int layer = 0; layer < 5; layer++) {
            z.cut(0, 5 + 6 * layer, 0, layer == 4 ? 5000 : 1000);
        }
        z.terms(40, 200, 1001);
        z.day();
        DUE.due("it lies in the last place alone", z.place(0, 29), 14);
        z.heap(0, 1000);
        DUE.told(z, "one in the last of 30 rows", z.pack(0), -7);
    }

    private static void theOrderOfPack() {
        DUE.says("REFUSED", "The first of these in that order", "pack");
        IceTrade x = new IceTrade();
        x.room(0, 1, 1, 1, -1);
        DUE.told(x, "-2 ahead of -7: an empty heap", x.pack(1), -2);
        heap(x, 2);
        DUE.told(x, "-2 ahead of -6", x.pack(1), -2);
        DUE.told(x, "-6 ahead of -7: a row is not laid", x.pack(0), -6);
        x.lay(0, 0, 0);
        x.cut(0, 0, 0, 1000);
        DUE.told(x, "-6 ahead of -7: the room holds something", x.pack(0), -6);
    }

    private static void refusedOnesKeepTheHeap() {
        DUE.says("REFUSED", "What is REFUSED changes nothing but status()", "pack");
        IceTrade x = new IceTrade();
        x.room(0, 2, 1, 1, -1);
        x.heap(2, 7000);
        x.heap(1, 8000);
        x.pack(1);
        x.pack(0);
        x.heap(0, 9000);
        x.pack(0);
        DUE.due("count(14)", x.count(14), 3);
        DUE.due("count(8)", x.count(8), 0);
        Due.laidRoom(x, 0, 3, 1, 1);
        DUE.told(x, "pack(1)", x.pack(1), 14);
        int[] grams = {7000, 8000, 9000};
        for (int i = 0; i < 3; i++) {
            DUE.due("grams of " + i, x.block(i, 1), grams[i]);
        }
    }
}
