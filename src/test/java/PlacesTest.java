/** Promises 6 to 10: cut, put, clear, place, block. */
public final class PlacesTest {
    private static final Due DUE = new Due();

    public static void main(String[] args) {
        cutIsRefused();
        threeHundredAtMost();
        whatIsPut();
        whereNoStrawMayBe();
        whatIsCleared();
        aDrainBeneathSomething();
        whatBlockTells();
        sidesAreSix();
        DUE.end();
    }

    private static void cutIsRefused() {
        IceTrade x = new IceTrade();
        x.room(0, 2, 1, 2, -1);
        DUE.due("no such room", x.cut(1, 0, 0, 1000), -2);
        DUE.due("no such room, no such place", x.cut(1, 99, 0, 1000), -2);
        DUE.due("no such room, no such kind", x.cut(1, 0, 3, 1000), -1);
        DUE.due("kind -1", x.cut(0, 0, -1, 1000), -1);
        DUE.due("999 grams", x.cut(0, 0, 0, 999), -1);
        DUE.due("1000001 grams", x.cut(0, 0, 0, 1000001), -1);
        DUE.due("place 4", x.cut(0, 4, 0, 1000), -1);
        DUE.due("place -1", x.cut(0, -1, 0, 1000), -1);
        DUE.due("row not laid", x.cut(0, 0, 0, 1000), -3);
        Due.layAll(x, 0);
        DUE.due("nothing beneath", x.cut(0, 2, 0, 1000), -5);
        DUE.due("the least", x.cut(0, 0, 0, 1000), 0);
        DUE.due("not free", x.cut(0, 0, 0, 1000), -4);
        DUE.due("the greatest, on a block", x.cut(0, 2, 2, 1000000), 1);
        x.put(0, 1, 1);
        DUE.due("on a drain", x.cut(0, 3, 1, 2000), -5);
        x.clear(0, 1);
        x.put(0, 1, 0);
        DUE.due("on straw", x.cut(0, 3, 1, 2000), 2);
        DUE.due("where straw is", x.cut(0, 1, 1, 2000), -4);
        DUE.due("count(1)", x.count(1), 1003000);
        DUE.due("count(8)", x.count(8), 3);
    }

    private static void threeHundredAtMost() {
        IceTrade x = new IceTrade();
        Due.laidRoom(x, 0, 6, 6, 5);
        Due.laidRoom(x, 0, 6, 6, 5);
        for (int i = 0; i < 299; i++) {
            DUE.due("cut " + i, x.cut(i / 180, i % 180, 0, 1000000), i);
        }
        x.image(0);
        Due.laidRoom(x, 0, 1, 1, 1);
        x.heap(0, 1000);
        DUE.due("the last one by a heap", x.pack(2), 6);
        x.back(0);
        DUE.due("cut 299", x.cut(1, 119, 0, 1000000), 299);
        DUE.due("one more", x.cut(1, 120, 0, 1000), -6);
        DUE.due("one more where it can't be", x.cut(1, 0, 0, 1000), -4);
        DUE.due("count(1)", x.count(1), 300000000);
        DUE.due("taken ones count too", x.take(0, 1), 1000000);
        DUE.due("one more", x.cut(1, 120, 0, 1000), -6);
        x.heap(0, 1000);
        Due.laidRoom(x, 0, 1, 1, 1);
        DUE.due("one more in a heap", x.pack(2), -6);
    }

    private static void whatIsPut() {
        IceTrade x = new IceTrade();
        x.room(0, 2, 1, 3, -1);
        DUE.due("what 2", x.put(0, 0, 2), -1);
        DUE.due("what -1, no such room", x.put(5, 0, -1), -1);
        DUE.due("no such room", x.put(5, 77, 0), -2);
        DUE.due("place 6", x.put(0, 6, 0), -1);
        DUE.due("row not laid", x.put(0, 0, 0), -3);
        Due.layAll(x, 0);
        DUE.due("nothing beneath", x.put(0, 2, 0), -5);
        DUE.due("straw", x.put(0, 0, 0), 0);
        DUE.due("not free", x.put(0, 0, 1), -4);
        DUE.due("a drain on straw", x.put(0, 2, 1), 0);
        DUE.due("straw on a drain", x.put(0, 4, 0), -5);
        DUE.due("a drain", x.put(0, 1, 1), 0);
        DUE.due("place(0, 0)", x.place(0, 0), 1);
        DUE.due("place(0, 2)", x.place(0, 2), 2);
        DUE.due("place(0, 1)", x.place(0, 1), 2);
        DUE.due("place(0, 3)", x.place(0, 3), 0);
        DUE.due("place(0, 6)", x.place(0, 6), -1);
        DUE.due("place(0, -1)", x.place(0, -1), -1);
        DUE.due("place(1, -1)", x.place(1, -1), -2);
    }

    private static void whereNoStrawMayBe() {
        for (int kind = 0; kind <= 5; kind++) {
            for (int layers = 1; layers <= 2; layers++) {
                IceTrade x = new IceTrade();
                x.room(0, 1, 1, 1, -1);
                int room = x.room(kind, 2, 1, layers, kind == 2 ? 0 : -1);
                DUE.due("row not laid is first", x.put(room, 0, 0), -3);
                Due.layAll(x, room);
                boolean mayBe = kind != 4 && (kind != 3 || layers > 1);
                DUE.due("straw in kind " + kind + " of " + layers, x.put(room, 0, 0), mayBe ? 0 : -7);
                DUE.due("a drain in kind " + kind, x.put(room, 1, 1), 0);
                DUE.due("straw on it in kind " + kind, x.put(room, 1, 0), -4);
            }
        }
    }

    private static void whatIsCleared() {
        IceTrade x = new IceTrade();
        x.room(0, 3, 1, 2, -1);
        DUE.due("row not laid", x.clear(0, 0), -3);
        Due.layAll(x, 0);
        x.put(0, 0, 0);
        x.put(0, 1, 1);
        x.cut(0, 2, 0, 1000);
        x.put(0, 3, 0);
        x.put(0, 5, 1);
        DUE.due("no such room", x.clear(1, 9), -2);
        DUE.due("no such place", x.clear(0, 6), -1);
        DUE.due("a block", x.clear(0, 2), -7);
        DUE.due("nothing", x.clear(0, 4), -7);
        DUE.due("beneath straw", x.clear(0, 0), -7);
        DUE.due("straw", x.clear(0, 3), 0);
        DUE.due("straw", x.clear(0, 0), 0);
        DUE.due("a drain", x.clear(0, 1), 0);
        DUE.due("a drain on a block", x.clear(0, 5), 0);
        DUE.due("again", x.clear(0, 5), -7);
        DUE.due("place(0, 1)", x.place(0, 1), 0);
    }

    /** What lies on one that is gone stays: then a drain may come beneath it. */
    private static void aDrainBeneathSomething() {
        IceTrade x = new IceTrade();
        Due.laidRoom(x, 0, 1, 1, 3);
        Due.warm(x, 0, 20f);
        x.cut(0, 0, 0, 2000);
        x.cut(0, 1, 0, 900000);
        DUE.due("day()", x.day(), 2000 + 3000);
        DUE.due("place(0, 0)", x.place(0, 0), 0);
        DUE.due("place(0, 1)", x.place(0, 1), 11);
        DUE.due("a drain beneath it", x.put(0, 0, 1), 0);
        DUE.due("clear(0, 0)", x.clear(0, 0), -7);
    }

    private static void whatBlockTells() {
        IceTrade x = new IceTrade();
        Due.laidRoom(x, 0, 2, 1, 2);
        Due.warm(x, 0, -5f);
        Due.warm(x, 1, 10f);
        x.day();
        x.cut(0, 0, 1, 5000);
        x.cut(0, 2, 2, 6000);
        x.put(0, 1, 0);
        // 100 less 2 for the salt: 98 tenths; 4 sides in air, one in straw, one shut
        int[] clear = {1, 5000, 0, 0, 1, -1, 4, 1, 4 * 294 + 117, 0};
        int[] salt = {2, 6000, 0, 2, 1, -1, 5, 0, 5 * 490, 1};
        for (int what = 0; what <= 9; what++) {
            DUE.due("block(0, " + what + ")", x.block(0, what), clear[what]);
            DUE.due("block(1, " + what + ")", x.block(1, what), salt[what]);
        }
        DUE.due("block(0, 10)", x.block(0, 10), -1);
        DUE.due("block(0, -1)", x.block(0, -1), -1);
        DUE.due("block(2, 0)", x.block(2, 0), -2);
        DUE.due("block(-1, 0)", x.block(-1, 0), -2);
        DUE.due("block(2, 10): -1 is first", x.block(2, 10), -1);
        x.day();
        DUE.due("block(0, 5)", x.block(0, 5), 1);
        DUE.due("block(1, 5)", x.block(1, 5), -1);
        x.take(0, 1);
        int[] taken = {2, 6000 - 2450, -1, -1, 1, -1, 0, 0, 0, 0};
        for (int what = 0; what <= 9; what++) {
            DUE.due("taken block(1, " + what + ")", x.block(1, what), taken[what]);
        }
        x.terms(40, 200, 1000000);
        x.day();
        int[] gone = {1, 0, -1, -1, 1, 1, 0, 0, 0, 0};
        for (int what = 0; what <= 9; what++) {
            DUE.due("gone block(0, " + what + ")", x.block(0, what), gone[what]);
        }
    }

    private static void sidesAreSix() {
        IceTrade x = new IceTrade();
        Due.laidRoom(x, 0, 3, 3, 3);
        for (int p = 0; p < 27; p++) {
            x.cut(0, p, 0, 5000);
        }
        DUE.due("the middle", x.block(13, 6), 0);
        DUE.due("a corner", x.block(0, 6), 3);
        DUE.due("an edge", x.block(1, 6), 2);
        DUE.due("a face", x.block(4, 6), 1);
        DUE.due("the end of a row does not touch the next one", x.block(2, 6), 3);
        DUE.due("rooms(0, 10)", x.rooms(0, 10), 54);
        DUE.due("rooms(0, 11)", x.rooms(0, 11), 9);
        IceTrade y = new IceTrade();
        Due.laidRoom(y, 0, 3, 3, 2);
        y.put(0, 4, 0);
        y.cut(0, 13, 0, 5000);
        y.put(0, 1, 0);
        y.put(0, 10, 0);
        y.put(0, 3, 1);
        DUE.due("sides in straw", y.block(0, 7), 2);
        DUE.due("sides in air", y.block(0, 6), 4);
        DUE.due("a block beneath straw is free", y.block(0, 9), 1);
    }
}
