/** Promises 30 and 31: image, back. */
public final class ImageTest {
    private static final Due DUE = new Due();

    public static void main(String[] args) {
        imagesAreRefused();
        allThatAnImageHas();
        whatAnImageHasNot();
        imagesAreApart();
        roomsThatWereNotYet();
        DUE.end();
    }

    private static void imagesAreRefused() {
        IceTrade x = new IceTrade();
        DUE.due("image(-1)", x.image(-1), -1);
        DUE.due("image(4)", x.image(4), -1);
        DUE.due("back(-1)", x.back(-1), -1);
        DUE.due("back(4)", x.back(4), -1);
        DUE.due("back(3)", x.back(3), -2);
        DUE.due("image(3)", x.image(3), 0);
        DUE.due("back(2)", x.back(2), -2);
        DUE.due("back(3)", x.back(3), 0);
        DUE.due("back(3) again", x.back(3), 0);
    }

    private static int[] all(IceTrade x) {
        int[] a = new int[3000];
        int n = 0;
        for (int what = 0; what <= 10; what++) {
            a[n++] = x.count(what);
        }
        for (int b = 0; b < 12; b++) {
            for (int what = 0; what <= 9; what++) {
                a[n++] = x.block(b, what);
            }
        }
        for (int r = 0; r < 4; r++) {
            for (int what = 0; what <= 11; what++) {
                a[n++] = x.rooms(r, what);
            }
            for (int p = 0; p < 30; p++) {
                a[n++] = x.place(r, p);
            }
        }
        return a;
    }

    private static IceTrade furnished() {
        IceTrade x = new IceTrade();
        Due.warm(x, 0, 10f);
        Due.laidRoom(x, 0, 3, 1, 2);
        Due.laidRoom(x, 5, 2, 2, 2);
        x.room(2, 2, 2, 2, 1);
        x.lay(2, 0, 0);
        x.cut(0, 0, 0, 20000);
        x.cut(0, 1, 1, 2000);
        x.cut(0, 2, 2, 30000);
        x.cut(1, 0, 1, 30000);
        x.put(1, 1, 0);
        x.put(0, 3, 1);
        x.cut(2, 1, 2, 5000);
        return x;
    }

    private static void allThatAnImageHas() {
        IceTrade x = furnished();
        x.day();
        x.take(0, 1);
        int[] then = all(x);
        x.image(1);
        x.day();
        x.take(1, 1);
        x.cut(2, 0, 0, 9000);
        x.terms(40, 200, 25000);
        x.put(1, 3, 1);
        x.clear(0, 3);
        x.clear(1, 1);
        x.lay(2, 0, 1);
        x.room(0, 2, 2, 2, -1);
        x.day();
        DUE.holds("much is altered", !java.util.Arrays.equals(all(x), then));
        DUE.due("back(1)", x.back(1), 0);
        DUE.holds("all is as it was", java.util.Arrays.equals(all(x), then));
        DUE.due("THE BOOK is empty", x.count(13), 0);
        DUE.due("line(0, 0)", x.line(0, 0), -2);
        DUE.due("there is no BOOK", x.check(), -7);
        x.day();
        x.back(1);
        DUE.holds("an image stays", java.util.Arrays.equals(all(x), then));
        DUE.due("the next number", x.cut(2, 0, 0, 9000), 5);
    }

    private static void whatAnImageHasNot() {
        IceTrade x = furnished();
        x.image(0);
        Due.warm(x, 0, 20f);
        x.terms(50, 300, 2000);
        x.price(0, 100);
        x.way(3, 4);
        x.heap(0, 1000);
        x.foretell(5, 0);
        int foretold = x.foretold(-1, 5);
        x.send(0, 30000);
        x.back(0);
        DUE.due("tenths(0)", x.tenths(0), 200);
        DUE.due("WET", x.block(3, 8), 5 * 420 + 210 + 300);
        DUE.due("count(11)", x.count(11), 1);
        DUE.due("count(14)", x.count(14), 1);
        DUE.due("foretold(-1, 5)", x.foretold(-1, 5), foretold);
        DUE.due("the latest send() was short", x.sent(0) > 0 ? 1 : 0, 1);
    }

    private static void imagesAreApart() {
        IceTrade x = new IceTrade();
        Due.laidRoom(x, 0, 4, 1, 1);
        for (int k = 0; k < 4; k++) {
            x.image(k);
            x.cut(0, k, 0, 5000);
            x.day();
        }
        for (int k = 3; k >= 0; k--) {
            x.back(k);
            DUE.due("blocks in image " + k, x.count(8), k);
            DUE.due("TODAY in image " + k, x.count(0), k);
        }
        x.back(3);
        x.image(0);
        x.back(1);
        x.back(0);
        DUE.due("kept anew", x.count(8), 3);
    }

    /** A room that comes behind back() has nothing of one that had its number. */
    private static void roomsThatWereNotYet() {
        IceTrade x = new IceTrade();
        x.image(0);
        Due.laidRoom(x, 5, 2, 2, 2);
        Due.warm(x, 0, 10f);
        x.put(0, 0, 1);
        x.cut(0, 1, 2, 90000);
        x.cut(0, 3, 0, 9000);
        x.day();
        x.clear(0, 0);
        x.day();
        DUE.holds("some is led off and some stands", x.rooms(0, 8) > 0 && x.rooms(0, 9) > 0);
        x.put(0, 0, 1);
        x.back(0);
        DUE.due("rooms(0, 0)", x.rooms(0, 0), -2);
        DUE.due("room", x.room(5, 2, 2, 2, -1), 0);
        DUE.due("place(0, 0)", x.place(0, 0), -3);
        Due.layAll(x, 0);
        for (int p = 0; p < 8; p++) {
            DUE.due("place(0, " + p + ")", x.place(0, p), 0);
        }
        DUE.due("rooms(0, 5)", x.rooms(0, 5), 90);
        DUE.due("rooms(0, 8)", x.rooms(0, 8), 0);
        DUE.due("rooms(0, 9)", x.rooms(0, 9), 0);
        x.cut(0, 0, 0, 5000);
        DUE.due("no drain in its layer 0", x.block(0, 8), 6 * 270 + 200);
    }
}
