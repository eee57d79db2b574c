/** Promises 28 and 29: heap, pack. */
public final class PackTest {
    private static final Due DUE = new Due();

    public static void main(String[] args) {
        heaps();
        packIsRefused();
        theFewestSidesInAir();
        theFirstOfThose();
        blockByBlock();
        whatIsPackedIsCut();
        oneBehindTheOther();
        whatLiesHighUp();
        DUE.end();
    }

    private static void heaps() {
        IceTrade x = new IceTrade();
        int[][] bad = {{-1, 1000}, {3, 1000}, {0, 999}, {0, 1000001}};
        for (int[] b : bad) {
            DUE.due("heap" + java.util.Arrays.toString(b), x.heap(b[0], b[1]), -1);
        }
        for (int i = 1; i <= 30; i++) {
            DUE.due("heap " + i, x.heap(i % 3, i % 2 == 0 ? 1000 : 1000000), i);
        }
        DUE.due("one more", x.heap(0, 1000), -6);
        DUE.due("one more that can't be", x.heap(3, 1000), -1);
        DUE.due("count(14)", x.count(14), 30);
    }

    private static void packIsRefused() {
        IceTrade x = new IceTrade();
        DUE.due("pack(0)", x.pack(0), -2);
        x.room(0, 2, 1, 2, -1);
        DUE.due("the heap is empty", x.pack(0), -7);
        x.heap(0, 1000);
        x.lay(0, 0, 0);
        DUE.due("a row is not laid", x.pack(0), -7);
        for (int i = 0; i < 4; i++) {
            x.heap(0, 1000);
        }
        DUE.due("not so many places is first", x.pack(0), -6);
        x.room(0, 2, 2, 2, -1);
        Due.layAll(x, 1);
        x.put(1, 0, 1);
        DUE.due("it holds a drain", x.pack(1), -7);
        x.clear(1, 0);
        x.put(1, 0, 0);
        DUE.due("it holds straw", x.pack(1), -7);
        x.clear(1, 0);
        x.cut(1, 3, 0, 1000);
        DUE.due("it holds a block", x.pack(1), -7);
        DUE.due("the heap is as it was", x.count(14), 5);
        x.take(1, 1);
        DUE.due("pack(1)", x.pack(1), 30 - 2 * 5);
        DUE.due("the heap is empty", x.count(14), 0);
        DUE.due("pack(1)", x.pack(1), -7);
    }

    private static int[] places(IceTrade x, int room) {
        int[] found = new int[x.rooms(room, 6)];
        int n = 0;
        for (int p = 0; n < found.length; p++) {
            if (x.place(room, p) >= 10) {
                found[n++] = p;
            }
        }
        return found;
    }

    private static void packs(int width, int rows, int layers, int n, int air, int... due) {
        IceTrade x = new IceTrade();
        Due.laidRoom(x, 0, width, rows, layers);
        for (int i = 0; i < n; i++) {
            x.heap(0, 1000 + i);
        }
        String name = n + " in " + width + " " + rows + " " + layers;
        DUE.due("pack of " + name, x.pack(0), air);
        int[] found = places(x, 0);
        DUE.holds(name + " lie at " + java.util.Arrays.toString(found), java.util.Arrays.equals(found, due));
        for (int i = 0; i < n; i++) {
            DUE.due("the first told lies lowest", x.block(i, 3), due[i]);
            DUE.due("its weight", x.block(i, 1), 1000 + i);
        }
    }

    private static void theFewestSidesInAir() {
        packs(3, 3, 2, 8, 24, 0, 1, 3, 4, 9, 10, 12, 13);
        packs(2, 2, 2, 8, 24, 0, 1, 2, 3, 4, 5, 6, 7);
        packs(3, 3, 2, 4, 16, 0, 1, 3, 4);
        packs(3, 1, 2, 4, 16, 0, 1, 3, 4);
        packs(1, 3, 2, 4, 16, 0, 1, 3, 4);
        packs(3, 3, 2, 6, 22, 0, 1, 2, 3, 4, 5);
        packs(2, 3, 2, 6, 22, 0, 1, 2, 3, 4, 5);
        packs(1, 1, 2, 2, 10, 0, 1);
        packs(3, 3, 1, 8, 28, 0, 1, 2, 3, 4, 5, 6, 7);
    }

    private static void theFirstOfThose() {
        packs(3, 3, 2, 1, 6, 0);
        packs(3, 3, 2, 2, 10, 0, 1);
        packs(3, 3, 2, 3, 14, 0, 1, 2);
        packs(3, 3, 2, 5, 20, 0, 1, 2, 3, 4);
        packs(1, 3, 2, 5, 20, 0, 1, 2, 3, 4);
        // seven have nine pairs that touch only as a cube without a corner
        packs(3, 3, 2, 7, 24, 0, 1, 3, 4, 9, 10, 12);
    }

    /** The ninth block, a width of 4, or a third layer: then one by one. */
    private static void blockByBlock() {
        packs(4, 2, 1, 4, 18, 0, 1, 2, 3);
        packs(3, 4, 1, 4, 18, 0, 1, 2, 3);
        packs(3, 3, 3, 4, 18, 0, 1, 2, 3);
        packs(2, 4, 1, 4, 16, 0, 1, 2, 3);
        packs(2, 2, 3, 8, 24, 0, 1, 2, 3, 4, 5, 6, 7);
        packs(3, 1, 3, 4, 18, 0, 1, 2, 3);
        packs(3, 3, 2, 9, 30, 0, 1, 2, 3, 4, 5, 6, 7, 8);
        packs(1, 1, 5, 5, 22, 0, 1, 2, 3, 4);
        packs(3, 3, 2, 18, 42, 0, 1, 2, 3, 4, 5, 6, 7, 8, 9, 10, 11, 12, 13, 14, 15, 16, 17);
    }

    /** What was packed before leaves nothing behind. */
    private static void oneBehindTheOther() {
        IceTrade y = new IceTrade();
        for (int r = 0; r < 6; r++) {
            Due.laidRoom(y, 0, r % 2 == 0 ? 4 : 3, 3, 2);
            int n = (r % 2 == 0 ? 11 : 4) - r / 2;
            for (int i = 0; i < n; i++) {
                y.heap(0, 1000);
            }
            y.pack(r);
            int[] found = places(y, r);
            DUE.due("blocks in " + r, found.length, n);
            DUE.due("the lowest in " + r, found[0], 0);
            DUE.due("the highest in " + r, found[n - 1], r % 2 == 0 || n < 4 ? n - 1 : 4);
        }
    }

    private static void whatLiesHighUp() {
        IceTrade x = new IceTrade();
        Due.laidRoom(x, 0, 1, 3, 3);
        Due.warm(x, 0, 20f);
        x.cut(0, 2, 0, 1000);
        x.cut(0, 5, 0, 1000);
        x.cut(0, 8, 0, 90000);
        x.day();
        DUE.due("rooms(0, 6)", x.rooms(0, 6), 1);
        x.heap(0, 1000);
        DUE.due("it holds something", x.pack(0), -7);
    }

    private static void whatIsPackedIsCut() {
        IceTrade x = new IceTrade();
        Due.laidRoom(x, 1, 2, 2, 1);
        Due.laidRoom(x, 4, 2, 2, 1);
        x.day();
        x.cut(0, 0, 0, 7000);
        x.heap(2, 3000);
        x.heap(1, 2000);
        DUE.due("pack(1)", x.pack(1), 10);
        DUE.due("place(1, 0)", x.place(1, 0), 11);
        DUE.due("place(1, 1)", x.place(1, 1), 12);
        DUE.due("block(1, 0)", x.block(1, 0), 2);
        DUE.due("block(2, 0)", x.block(2, 0), 1);
        DUE.due("block(1, 4)", x.block(1, 4), 1);
        DUE.due("block(1, 5)", x.block(1, 5), -1);
        DUE.due("block(2, 2)", x.block(2, 2), 1);
        DUE.due("count(1)", x.count(1), 12000);
        DUE.due("its salt counts", x.rooms(1, 5), 28);
    }
}
