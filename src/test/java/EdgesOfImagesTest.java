import java.util.Arrays;

/** The edges that term V names of IMAGES, and promises 30 and 31, each with its sentence. */
public final class EdgesOfImagesTest {
    private static final int[] WILD = {Integer.MIN_VALUE, Integer.MAX_VALUE};
    private static final Due DUE = new Due();

    public static void main(String[] args) {
        imagesThatAreNone();
        backToNone();
        notKept();
        fourImages();
        keptAnew();
        anEmptyImage();
        todayAndGrams();
        roomsWithWhatTheyHold();
        blocks();
        theBookIsEmpty();
        refusedOnesLeaveTheBook();
        nothingElse();
        againAndAgain();
        numbersComeAgain();
        imagesOfOtherThings();
        fullOnes();
        DUE.end();
    }

    private static void imagesThatAreNone() {
        DUE.says("Promise 30", "Kept as IMAGE k (0 .. 3): 0; -1");
        IceTrade x = new IceTrade();
        int[] bad = {-1, 4, WILD[0], WILD[1]};
        for (int k : bad) {
            DUE.told(x, "image(" + k + ")", x.image(k), -1);
        }
        for (int k = 0; k <= 3; k++) {
            DUE.told(x, "back(" + k + ")", x.back(k), -2);
            DUE.told(x, "image(" + k + ")", x.image(k), 0);
            DUE.told(x, "back(" + k + ")", x.back(k), 0);
        }
    }

    private static void backToNone() {
        DUE.says("Promise 31", "As IMAGE k was: 0; -1");
        IceTrade x = new IceTrade();
        int[] bad = {-1, 4, WILD[0], WILD[1]};
        for (int k : bad) {
            DUE.told(x, "back(" + k + ") while none is kept", x.back(k), -1);
        }
        for (int k = 0; k <= 3; k++) {
            x.image(k);
        }
        for (int k : bad) {
            DUE.told(x, "back(" + k + ") while all are kept", x.back(k), -1);
        }
    }

    private static void notKept() {
        DUE.says("Promise 31", "-2: it was not kept");
        for (int kept = 0; kept <= 3; kept++) {
            IceTrade x = new IceTrade();
            x.image(kept);
            Due.days(x, 2);
            for (int k = 0; k <= 3; k++) {
                if (k != kept) {
                    DUE.told(x, "back(" + k + ")", x.back(k), -2);
                    DUE.due("TODAY", x.count(0), 2);
                }
            }
            DUE.told(x, "back(" + kept + ")", x.back(kept), 0);
            DUE.due("TODAY", x.count(0), 0);
        }
    }

    private static void fourImages() {
        DUE.says("V", "IMAGES 0 .. 3");
        IceTrade x = new IceTrade();
        for (int k = 0; k <= 3; k++) {
            x.image(k);
            x.day();
        }
        int[] order = {2, 0, 3, 1};
        for (int k : order) {
            DUE.told(x, "back(" + k + ")", x.back(k), 0);
            DUE.due("TODAY of image " + k, x.count(0), k);
        }
    }

    private static void keptAnew() {
        DUE.says("Promise 30", "Kept as IMAGE k (0 .. 3): 0", "one that was kept already");
        IceTrade x = new IceTrade();
        x.image(0);
        x.image(1);
        x.day();
        DUE.told(x, "image(0) anew", x.image(0), 0);
        x.day();
        x.back(0);
        DUE.due("TODAY of image 0", x.count(0), 1);
        x.back(1);
        DUE.due("TODAY of image 1", x.count(0), 0);
    }

    private static void anEmptyImage() {
        DUE.says("V", "back() makes all that as it was", "an object without ROOMS");
        IceTrade x = new IceTrade();
        x.image(3);
        Due.laidRoom(x, 5, 2, 1, 2);
        Due.warm(x, 0, 10f);
        x.cut(0, 0, 2, 1000);
        x.cut(0, 1, 0, 50000);
        x.put(0, 3, 1);
        x.day();
        x.take(0, 1);
        x.back(3);
        for (int what = 0; what <= 10; what++) {
            DUE.due("count(" + what + ")", x.count(what), 0);
        }
        DUE.due("rooms(0, 0)", x.rooms(0, 0), -2);
        DUE.due("block(0, 0)", x.block(0, 0), -2);
        DUE.due("place(0, 3)", x.place(0, 3), -2);
    }

    /** A pit whose drain came and went, and blocks of which one is gone and one is taken. */
    private static IceTrade furnished() {
        IceTrade x = new IceTrade();
        Due.laidRoom(x, 5, 3, 1, 2);
        x.room(2, 2, 2, 2, 0);
        x.lay(1, 0, 1);
        Due.warm(x, 0, 2f);
        x.cut(0, 1, 1, 50000);
        x.cut(0, 4, 2, 40000);
        x.cut(1, 2, 0, 1100);
        x.put(0, 0, 1);
        x.put(0, 2, 0);
        x.day();
        x.clear(0, 0);
        x.day();
        x.cut(1, 3, 0, 30000);
        x.take(1, 1);
        return x;
    }

    private static void alter(IceTrade x) {
        x.put(0, 0, 0);
        x.clear(0, 2);
        x.put(0, 2, 1);
        x.tear(1, 0, 1);
        x.lay(1, 0, 0);
        x.lay(1, 1, 0);
        x.room(4, 1, 1, 1, -1);
        x.day();
        x.take(0, 2);
        x.cut(0, 1, 0, 5000);
        x.cut(1, 0, 2, 6000);
        x.terms(40, 200, 5000);
        x.day();
        x.terms(40, 200, 1000);
    }

    private static int[] answers(IceTrade x, int which) {
        int[] a = new int[200];
        int n = 0;
        for (int what = 0; what <= 10 && which == 0; what++) {
            a[n++] = x.count(what);
        }
        for (int room = 0; room < 3 && which == 1; room++) {
            for (int what = 0; what <= 11; what++) {
                a[n++] = x.rooms(room, what);
            }
            for (int place = 0; place < 8; place++) {
                a[n++] = x.place(room, place);
            }
        }
        for (int block = 0; block < 7 && which == 2; block++) {
            for (int what = 0; what <= 9; what++) {
                a[n++] = x.block(block, what);
            }
        }
        return a;
    }

    private static void comesBack(int which) {
        IceTrade x = furnished();
        int[] then = answers(x, which);
        x.image(2);
        alter(x);
        DUE.holds("it is another one", !Arrays.equals(answers(x, which), then));
        x.back(2);
        int[] again = answers(x, which);
        for (int i = 0; i < then.length; i++) {
            DUE.due("answer " + i, again[i], then[i]);
        }
    }

    private static void todayAndGrams() {
        DUE.says("V", "IMAGES 0 .. 3 have TODAY, [..] CUT, SOLD, MELTED, GONE, LED and STANDING grams");
        IceTrade x = furnished();
        for (int what = 0; what <= 7; what++) {
            DUE.holds("there is something of " + what, x.count(what) > 0);
        }
        comesBack(0);
    }

    private static void roomsWithWhatTheyHold() {
        DUE.says("V", "IMAGES 0 .. 3 have [..] all ROOMS with what they hold");
        comesBack(1);
    }

    private static void blocks() {
        DUE.says("V", "IMAGES 0 .. 3 have [..] all BLOCKS");
        comesBack(2);
    }

    private static void theBookIsEmpty() {
        DUE.says("V", "back() makes all that as it was, and THE BOOK empty");
        IceTrade x = furnished();
        x.image(0);
        DUE.holds("there are lines", x.count(13) > 0);
        x.back(0);
        DUE.due("LINES", x.count(13), 0);
        DUE.due("line(0, 0)", x.line(0, 0), -2);
        DUE.told(x, "alter(0, 0, 1)", x.alter(0, 0, 1), -2);
        DUE.due("check()", x.check(), -7);
        x.day();
        DUE.holds("the next day has a BOOK again", x.count(13) > 0);
        DUE.due("check()", x.check(), -1);
    }

    private static void refusedOnesLeaveTheBook() {
        DUE.says("REFUSED", "What is REFUSED changes nothing but status()", "back");
        IceTrade x = furnished();
        int lines = x.count(13);
        x.back(1);
        x.back(-1);
        x.back(4);
        DUE.due("LINES", x.count(13), lines);
        DUE.due("check()", x.check(), -1);
        DUE.due("TODAY", x.count(0), 2);
    }

    private static void nothingElse() {
        DUE.says("V", "back() makes all that as it was", "and nothing else");
        IceTrade x = furnished();
        x.image(0);
        Due.warm(x, 2, 7f);
        x.terms(0, 1, 2);
        x.price(0, 1000);
        x.way(3, 2);
        x.heap(0, 1000);
        x.foretell(3, 0);
        int foretold = x.foretold(-1, 3);
        int last = x.last();
        x.take(0, 2);
        x.send(0, 9);
        x.back(0);
        DUE.due("tenths(2)", x.tenths(2), 70);
        DUE.due("PART and WET", x.block(0, 8), 4 * 3 * (75 - 2) + 1);
        DUE.due("STRETCHES", x.count(11), 1);
        DUE.due("HEAP", x.count(14), 1);
        DUE.due("foretold(-1, 3)", x.foretold(-1, 3), foretold);
        DUE.due("last()", x.last(), last);
        DUE.due("the latest taken ones", x.count(15), 2);
        DUE.due("the latest send() was short", x.sent(0), 9);
        x.cut(1, 2, 0, 8000);
        x.home();
        x.send(1, 1);
        DUE.due("the PRICE", x.sent(2), 8000);
        x.back(0);
        DUE.due("what was sent", x.sent(1), 8000);
    }

    private static void againAndAgain() {
        DUE.says("Promise 31", "As IMAGE k was: 0", "again and again");
        IceTrade x = new IceTrade();
        Due.laidRoom(x, 0, 2, 1, 1);
        Due.warm(x, 0, 1f);
        x.cut(0, 0, 0, 5000);
        x.image(0);
        for (int i = 0; i < 5; i++) {
            DUE.due("day()", x.day(), 180);
            x.take(0, 1);
            x.put(0, 0, 1);
            DUE.told(x, "back(0)", x.back(0), 0);
            DUE.due("place(0, 0)", x.place(0, 0), 10);
            DUE.due("block(0, 1)", x.block(0, 1), 5000);
        }
    }

    private static void numbersComeAgain() {
        DUE.says("V", "back() makes all that as it was", "numbers of ROOMS and BLOCKS are free again");
        IceTrade x = new IceTrade();
        x.image(0);
        Due.laidRoom(x, 5, 2, 1, 2);
        Due.warm(x, 0, 10f);
        x.put(0, 0, 1);
        x.cut(0, 1, 2, 50000);
        x.cut(0, 3, 1, 50000);
        x.day();
        x.clear(0, 0);
        x.day();
        DUE.holds("some is led off and some stands", x.rooms(0, 8) > 0 && x.rooms(0, 9) > 0);
        x.put(0, 0, 1);
        x.back(0);
        DUE.told(x, "a room", x.room(5, 2, 1, 2, -1), 0);
        DUE.due("its row is not laid", x.place(0, 0), -3);
        Due.layAll(x, 0);
        for (int place = 0; place < 4; place++) {
            DUE.due("place(0, " + place + ")", x.place(0, place), 0);
        }
        for (int what = 6; what <= 11; what++) {
            DUE.due("rooms(0, " + what + ")", x.rooms(0, what), 0);
        }
        DUE.due("WARMTH without salt", x.rooms(0, 5), 90);
        DUE.told(x, "a block", x.cut(0, 0, 1, 7000), 0);
        DUE.due("it stands in water: no drain is there", x.block(0, 8), 6 * 270 + 200);
        DUE.due("not spoilt", x.block(0, 5), -1);
    }

    /** Between the two images the same numbers are borne by other rooms and blocks, and all else differs too. */
    private static void imagesOfOtherThings() {
        DUE.says("V", "back() makes all that as it was", "from one IMAGE to another");
        IceTrade x = new IceTrade();
        x.image(0);
        Due.warm(x, 0, 10f);
        x.day();
        x.room(3, 1, 1, 1, -1);
        x.room(5, 2, 1, 2, -1);
        x.room(2, 1, 1, 1, 1);
        Due.layAll(x, 1);
        Due.layAll(x, 2);
        x.cut(1, 0, 1, 50000);
        x.cut(2, 0, 0, 1000);
        x.cut(1, 1, 2, 40000);
        x.day();
        x.take(1, 1);
        x.image(1);
        int[][] then = {answers(x, 0), answers(x, 1), answers(x, 2)};
        x.back(0);
        Due.laidRoom(x, 4, 3, 2, 1);
        x.room(2, 1, 2, 3, 0);
        x.room(0, 2, 2, 1, -1);
        Due.layAll(x, 2);
        x.cut(0, 5, 2, 1000000);
        x.cut(0, 2, 1, 20000);
        x.cut(2, 3, 0, 30000);
        x.put(0, 0, 1);
        x.day();
        x.day();
        x.day();
        x.back(1);
        for (int which = 0; which <= 2; which++) {
            int[] again = answers(x, which);
            for (int i = 0; i < again.length; i++) {
                DUE.due("answer " + i + " of " + which, again[i], then[which][i]);
            }
        }
        DUE.due("the inner one is in room 1", x.rooms(2, 4), 1);
        DUE.due("it was cut on day 1", x.block(0, 4), 1);
        DUE.due("it was spoilt on day 1", x.block(0, 5), 1);
    }

    private static void fullOnes() {
        DUE.says("V", "IMAGES 0 .. 3 have TODAY, all ROOMS with what they hold, all BLOCKS", "8 ROOMS, 300 BLOCKS");
        IceTrade x = new IceTrade();
        Due.laidRoom(x, 0, 6, 6, 5);
        for (int room = 1; room < 7; room++) {
            x.room(0, 1, 1, 1, -1);
        }
        Due.laidRoom(x, 0, 6, 5, 4);
        for (int i = 0; i < 300; i++) {
            x.cut(i < 180 ? 0 : 7, i < 180 ? i : i - 180, i % 3, 1000 + i);
        }
        x.image(3);
        x.take(0, 180);
        x.take(7, 120);
        x.back(3);
        DUE.due("ROOMS", x.count(10), 8);
        DUE.due("BLOCKS in ROOMS", x.count(9), 300);
        for (int i = 0; i < 300; i += 23) {
            DUE.due("kind of " + i, x.block(i, 0), i % 3);
            DUE.due("grams of " + i, x.block(i, 1), 1000 + i);
            DUE.due("place of " + i, x.block(i, 3), i < 180 ? i : i - 180);
        }
        DUE.due("the last place of room 0", x.place(0, 179), 189);
        DUE.due("the last place of room 7", x.place(7, 119), 309);
        DUE.due("block(299, 1)", x.block(299, 1), 1299);
        DUE.told(x, "a ninth room", x.room(0, 1, 1, 1, -1), -6);
    }
}
