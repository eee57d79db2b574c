/**
 * The document from its first line to its last: those of its sentences that name no boundary case, in their order. (Those
 * that do are in the EdgesOf..Tests.)
 */
public final class DocumentInOrderTest {
    private static final Due DUE = new Due();

    public static void main(String[] args) {
        kindsOfRooms();
        placesOfRooms();
        rowsLaidAndTorn();
        whatAPlaceHolds();
        kindsOfBlocks();
        lossOfADay();
        daysOnTheWay();
        foretoldFromToday();
        packedWhereAllIsLaidAndBare();
        refusals();
        answersOfRooms();
        answersOfBlocks();
        counts();
        sentAndSold();
        numbersOfALine();
        DUE.end();
    }

    /** On a day of 12.5 degrees a room of each kind; the inner one is in the cellar. */
    private static IceTrade withAllKinds() {
        IceTrade x = new IceTrade();
        Due.warm(x, 0, 12.5f);
        for (int kind = 0; kind <= 5; kind++) {
            DUE.told(x, "room of kind " + kind, x.room(kind, 1, 1, 2, kind == 2 ? 1 : -1), kind);
            Due.layAll(x, kind);
        }
        return x;
    }

    private static void kindsOfRooms() {
        DUE.says("I", "KINDS of ROOMS: 0 a ROOM, 1 a CELLAR (earth around), 2 an INNER one (in another ROOM), 3 a BOAT, 4 a CART, "
            + "5 a PIT (a CELLAR with water). WARMTH of one on a day, in TENTHS: of a ROOM the day's");
        IceTrade x = withAllKinds();
        int[] warmth = {125, 102, 102, 135, 155, 102};
        int[] straw = {0, 0, 0, 0, -7, 0};
        for (int kind = 0; kind <= 5; kind++) {
            DUE.due("KIND", x.rooms(kind, 0), kind);
            DUE.due("WARMTH of kind " + kind, x.rooms(kind, 5), warmth[kind]);
            DUE.told(x, "straw in one of kind " + kind, x.put(kind, 0, 0), straw[kind]);
        }
        IceTrade y = withAllKinds();
        for (int kind = 0; kind <= 5; kind++) {
            y.cut(kind, 0, 0, 50000);
            int wet = kind == 5 ? 200 : 0;
            DUE.due("LOSS in one of kind " + kind, y.block(kind, 8), 6 * 3 * warmth[kind] + wet);
        }
    }

    private static void placesOfRooms() {
        DUE.says("II", "ROOMS 0 .. 7 have PLACES: 1 .. 6 in a row (x), 1 .. 6 rows (y) in a layer, 1 .. 5 layers (z) from below: "
            + "PLACE x + width (y + rows z)");
        IceTrade x = new IceTrade();
        Due.laidRoom(x, 0, 3, 2, 2);
        for (int place = 0; place < 12; place++) {
            DUE.told(x, "cut at " + place, x.cut(0, place, 0, 50000), place);
        }
        // three shut sides at the corners, four in the middle of a row
        for (int place = 0; place < 12; place++) {
            DUE.due("sides in air at " + place, x.block(place, 6), place % 3 == 1 ? 2 : 3);
        }
        DUE.due("sides in air together", x.rooms(0, 10), 32);
        DUE.told(x, "no place 12", x.cut(0, 12, 0, 50000), -1);
    }

    private static void rowsLaidAndTorn() {
        DUE.says("II", "ROWS are LAID one by one, a row of a layer above 0 if the one beneath it is; TORN, if they hold nothing and "
            + "none above is LAID");
        IceTrade x = new IceTrade();
        x.room(0, 2, 2, 3, -1);
        DUE.told(x, "layer 1, not the one beneath", x.lay(0, 1, 1), -7);
        DUE.told(x, "another row of layer 0", x.lay(0, 0, 0), 0);
        DUE.told(x, "that is not the one beneath", x.lay(0, 1, 1), -7);
        DUE.told(x, "the one beneath", x.lay(0, 0, 1), 0);
        DUE.told(x, "layer 1 on it", x.lay(0, 1, 1), 0);
        DUE.told(x, "layer 2 on that", x.lay(0, 2, 1), 0);
        DUE.told(x, "tear one with one above", x.tear(0, 1, 1), -7);
        DUE.told(x, "tear one with two above", x.tear(0, 0, 1), -7);
        DUE.told(x, "tear one beside it", x.tear(0, 0, 0), 0);
        DUE.told(x, "tear the highest", x.tear(0, 2, 1), 0);
        DUE.told(x, "tear it once more", x.tear(0, 2, 1), -3);
        x.cut(0, 3, 0, 5000);
        DUE.told(x, "above what holds something", x.tear(0, 1, 1), 0);
        DUE.told(x, "one that holds something", x.tear(0, 0, 1), -7);
        x.take(0, 1);
        DUE.told(x, "one that holds nothing any more", x.tear(0, 0, 1), 0);
        DUE.due("its places are not there", x.place(0, 3), -3);
    }

    private static void whatAPlaceHolds() {
        DUE.says("II", "A PLACE in a ROW that is LAID holds a BLOCK, STRAW, a DRAIN, or nothing");
        IceTrade x = new IceTrade();
        Due.laidRoom(x, 0, 4, 1, 1);
        DUE.told(x, "a block", x.cut(0, 0, 2, 5000), 0);
        DUE.told(x, "straw", x.put(0, 1, 0), 0);
        DUE.told(x, "a drain", x.put(0, 2, 1), 0);
        int[] what = {10, 1, 2, 0};
        for (int place = 0; place < 4; place++) {
            DUE.due("place " + place, x.place(0, place), what[place]);
        }
        DUE.told(x, "straw is taken away", x.clear(0, 1), 0);
        DUE.told(x, "a drain is taken away", x.clear(0, 2), 0);
        DUE.told(x, "a block is not", x.clear(0, 0), -7);
        DUE.due("nothing there", x.place(0, 1) + x.place(0, 2), 0);
    }

    private static void kindsOfBlocks() {
        DUE.says("II", "BLOCKS are numbered from 0 on as they are cut, 300 at most: 0 plain, 1 CLEAR, 2 SALT");
        IceTrade x = new IceTrade();
        Due.warm(x, 0, 10f);
        Due.laidRoom(x, 0, 5, 1, 1);
        for (int kind = 0; kind <= 2; kind++) {
            DUE.told(x, "cut", x.cut(0, 2 * kind, kind, 50000), kind);
            DUE.due("its kind", x.block(kind, 0), kind);
        }
        // 98 tenths, as there is one salt block
        DUE.due("a plain one loses", x.block(0, 8), 6 * 3 * 98);
        DUE.due("a clear one loses", x.block(1, 8), 6 * 3 * 98);
        DUE.due("a salt one loses", x.block(2, 8), 6 * 5 * 98);
        x.put(0, 1, 0);
        x.cut(0, 3, 2, 50000);
        x.day();
        DUE.due("a plain one is not spoilt", x.block(0, 5), -1);
        DUE.due("a clear one beside a salt one is", x.block(1, 5), 0);
        DUE.due("a salt one is not", x.block(2, 5), -1);
    }

    private static void lossOfADay() {
        DUE.says("III", "A DAY: each BLOCK that lies in a ROOM loses its LOSS of TODAY, all by how they lay at its beginning; what is "
            + "below LEAST then is GONE (what is left of it counts so; its PLACE holds nothing); TODAY is one more");
        IceTrade x = new IceTrade();
        Due.warm(x, 0, 10f);
        Due.warm(x, 1, 1f);
        Due.laidRoom(x, 0, 2, 1, 1);
        x.cut(0, 0, 0, 2000);
        x.cut(0, 1, 0, 9000);
        DUE.told(x, "1500 of each", x.day(), 3000);
        DUE.due("500 are left of the first: it is gone", x.place(0, 0), 0);
        DUE.due("GONE grams", x.count(5), 500);
        DUE.due("its grams", x.block(0, 1), 0);
        DUE.due("the second lost as if the first still lay there", x.block(1, 1), 7500);
        DUE.due("TODAY", x.count(0), 1);
        DUE.told(x, "by now with six sides in air", x.day(), 6 * 3 * 10);
        DUE.due("MELTED", x.count(4), 3180);
        DUE.due("CUT is in rooms, melted and gone", x.count(2) + 3180 + 500, x.count(1));
    }

    private static void daysOnTheWay() {
        DUE.says("THE WAY", "by the WARMTH of a CART or BOAT without SALT (as days are OUTSIDE)");
        IceTrade x = new IceTrade();
        Due.warm(x, 0, -10f);
        Due.warm(x, 1, 5f);
        Due.warm(x, 3, 20f);
        Due.laidRoom(x, 0, 1, 1, 1);
        x.cut(0, 0, 2, 100000);
        x.way(3, 2);
        // -90 tenths on day 0, 60 on day 1
        DUE.due("two days on a boat", x.comes(0, 1), 100000 - 6 * 5 * 60);
        x.way(4, 2);
        // 80 tenths on day 2, which is not told, and 230 on day 3
        DUE.due("two more on a cart", x.comes(0, 1), 100000 - 6 * 5 * (60 + 80 + 230));
        x.day();
        DUE.due("a day later", x.comes(0, 1), 100000 - 6 * 5 * (60 + 60 + 230 + 230));
    }

    private static void foretoldFromToday() {
        DUE.says("V", "FORETOLD are days from TODAY on: as many DAYS");
        IceTrade x = new IceTrade();
        for (int day = 0; day < 4; day++) {
            Due.warm(x, day, day);
        }
        Due.laidRoom(x, 0, 1, 1, 1);
        x.cut(0, 0, 0, 20000);
        x.day();
        DUE.told(x, "two days", x.foretell(2, 0), 2);
        DUE.due("ahead of the first", x.foretold(0, 0), 20000);
        DUE.due("behind day 1", x.foretold(0, 1), 20000 - 180);
        DUE.due("behind day 2", x.foretold(0, 2), 20000 - 180 - 360);
        DUE.due("no third one", x.foretold(0, 3), -1);
        DUE.told(x, "two days by those before them", x.foretell(2, 1), 2);
        DUE.due("behind day 1, by day 0", x.foretold(0, 1), 20000);
        DUE.due("behind day 2, by day 1", x.foretold(0, 2), 20000 - 180);
        DUE.due("all is as it was", x.block(0, 1), 20000);
        DUE.due("TODAY is as it was", x.count(0), 1);
    }

    private static void packedWhereAllIsLaidAndBare() {
        DUE.says("VI", "PACKED into a ROOM whose ROWS are all LAID and that holds nothing");
        IceTrade x = new IceTrade();
        x.room(0, 2, 2, 1, -1);
        x.heap(2, 7000);
        x.heap(1, 6000);
        x.lay(0, 0, 0);
        DUE.told(x, "a row is not laid", x.pack(0), -7);
        x.lay(0, 0, 1);
        x.put(0, 3, 1);
        DUE.told(x, "a drain is there", x.pack(0), -7);
        DUE.due("the heap is as it was", x.count(14), 2);
        x.clear(0, 3);
        DUE.told(x, "all laid, and bare", x.pack(0), 10);
        DUE.due("the first one told", x.block(0, 0) * 100000 + x.block(0, 1), 207000);
        DUE.due("is in the lowest place", x.place(0, 0), 10);
        DUE.due("the second one told", x.block(1, 0) * 100000 + x.block(1, 1), 106000);
        DUE.due("is in the next", x.place(0, 1), 11);
        DUE.due("CUT", x.count(1), 13000);
        DUE.due("no heap", x.count(14), 0);
    }

    private static void refusals() {
        DUE.says("REFUSED", "-1 a number that can't be; -2 there is none such; -3 the ROW is not LAID; -4 the PLACE is not free; "
            + "-5 nothing beneath; -6 no room, or too many; -7 not as things are");
        IceTrade x = new IceTrade();
        x.room(4, 1, 1, 2, -1);
        DUE.told(x, "a number that can't be", x.cut(0, 0, 3, 5000), -1);
        DUE.told(x, "none such", x.cut(1, 0, 0, 5000), -2);
        DUE.told(x, "the row is not laid", x.cut(0, 0, 0, 5000), -3);
        Due.layAll(x, 0);
        DUE.told(x, "nothing beneath", x.cut(0, 1, 0, 5000), -5);
        DUE.told(x, "as it should be", x.cut(0, 0, 0, 5000), 0);
        DUE.told(x, "not free", x.cut(0, 0, 0, 5000), -4);
        DUE.told(x, "too many", x.take(0, 2), -6);
        DUE.told(x, "not as things are", x.put(0, 1, 0), -7);
    }

    private static void answersOfRooms() {
        DUE.says("Promise 3", "Of a ROOM what 0 KIND, 1 width, 2 rows, 3 layers, 4 in which it is (NONE), 5 WARMTH TODAY, 6 BLOCKS, "
            + "7 grams in it, 8 LED, 9 STANDING grams, 10 sides in air of its BLOCKS, 11 FREE ones");
        IceTrade x = new IceTrade();
        Due.warm(x, 0, 10f);
        Due.laidRoom(x, 0, 1, 1, 1);
        x.room(2, 2, 3, 4, 0);
        Due.layAll(x, 1);
        x.cut(1, 0, 0, 10000);
        x.cut(1, 6, 2, 10000);
        x.cut(1, 5, 1, 10000);
        int[] first = {2, 2, 3, 4, 0, 98, 3, 30000, 0, 0, 16, 2};
        for (int what = 0; what <= 11; what++) {
            DUE.due("what " + what, x.rooms(1, what), first[what]);
        }
        int loss = 98 * (5 * 3 + 5 * 5 + 6 * 3);
        DUE.due("a day", x.day(), loss);
        x.put(1, 1, 1);
        DUE.due("STANDING", x.rooms(1, 9), loss);
        DUE.due("and one with a drain", x.day(), loss);
        int[] then = {2, 2, 3, 4, 0, 98, 3, 30000 - 2 * loss, loss, loss, 16, 2};
        for (int what = 0; what <= 11; what++) {
            DUE.due("what " + what + " then", x.rooms(1, what), then[what]);
        }
        DUE.due("nothing of it in the room around", x.rooms(0, 6) + x.rooms(0, 7) + x.rooms(0, 8) + x.rooms(0, 9), 0);
    }

    private static void answersOfBlocks() {
        DUE.says("Promise 10", "Of a BLOCK what 0 kind, 1 grams [..] 2 ROOM [..] 3 PLACE [..] 4 the day on which it was cut, 5 SPOILT: "
            + "the first day (NONE), 6 sides in air, 7 in STRAW, 8 LOSS TODAY [..] 9 1 if it is FREE, else 0");
        IceTrade x = new IceTrade();
        Due.warm(x, 0, 10f);
        Due.laidRoom(x, 0, 1, 1, 1);
        Due.laidRoom(x, 0, 3, 1, 2);
        Due.days(x, 2);
        x.put(1, 0, 0);
        x.cut(1, 1, 1, 30000);
        x.cut(1, 2, 2, 20000);
        int[] first = {1, 30000, 1, 1, 2, -1, 4, 1, 98 * 3 * 4 + 117, 1};
        for (int what = 0; what <= 9; what++) {
            DUE.due("what " + what, x.block(0, what), first[what]);
        }
        x.day();
        x.cut(1, 4, 0, 10000);
        int[] then = {1, 30000 - 1293, 1, 1, 2, 2, 3, 1, 98 * 3 * 3 + 117, 0};
        for (int what = 0; what <= 9; what++) {
            DUE.due("what " + what + " then", x.block(0, what), then[what]);
        }
        DUE.due("the other was cut on day 3", x.block(2, 4), 3);
    }

    private static void counts() {
        DUE.says("Promise 15", "TODAY (0), grams CUT (1), in ROOMS (2), SOLD (3), MELTED (4), GONE (5), LED (6), STANDING (7), BLOCKS "
            + "ever (8), in ROOMS (9), ROOMS (10), STRETCHES of THE WAY (11), its days (12), LINES of THE BOOK (13), BLOCKS of the "
            + "HEAP (14), of the latest TAKEN or SENT ones (15)");
        IceTrade x = new IceTrade();
        Due.warm(x, 0, 10f);
        Due.laidRoom(x, 0, 6, 1, 1);
        Due.laidRoom(x, 3, 4, 1, 1);
        x.put(1, 3, 1);
        x.cut(0, 0, 0, 2500);
        x.cut(0, 2, 0, 10000);
        x.cut(0, 4, 0, 11000);
        x.cut(1, 0, 0, 12000);
        x.day();
        // 1800 of each in the room, 1980 in the boat, where a drain lies; 700 of the first are gone
        x.take(0, 1);
        x.way(3, 4);
        x.way(4, 5);
        x.way(4, 0);
        x.heap(0, 1000);
        x.heap(0, 1000);
        int[] due = {1, 35500, 9200 + 10020, 8200, 3 * 1800 + 1980, 700, 1980, 3 * 1800, 4, 2, 2, 3, 9, 4, 2, 1};
        for (int what = 0; what <= 15; what++) {
            DUE.due("count(" + what + ")", x.count(what), due[what]);
        }
    }

    private static void sentAndSold() {
        DUE.says("Promise 21", "Grams (1 .. 100000000) are SENT from a ROOM, and SOLD: how many BLOCKS");
        IceTrade x = new IceTrade();
        Due.laidRoom(x, 0, 5, 1, 1);
        for (int i = 0; i < 3; i++) {
            x.cut(0, 2 * i, i, 10000);
            x.price(i, 100 + 11 * i);
        }
        DUE.told(x, "two of three", x.send(0, 10001), 2);
        DUE.due("they come to", x.sent(1), 20000);
        DUE.due("the bill", x.sent(2), 1000 + 1110);
        DUE.due("not short", x.sent(0), 0);
        DUE.due("SOLD", x.count(3), 20000);
        DUE.due("one lies there still", x.rooms(0, 6), 1);
        DUE.due("the first", x.list(0), 0);
        DUE.due("the second", x.list(1), 1);
        DUE.due("no third one", x.list(2), -1);
    }

    private static void numbersOfALine() {
        DUE.says("Promise 32", "Of LINE i of THE BOOK what 0 the BLOCK, 1 ROOM, 2 PLACE, 3 what it weighed, 4 LOSS, 5 what was left");
        IceTrade x = new IceTrade();
        Due.warm(x, 0, 10f);
        Due.laidRoom(x, 0, 1, 1, 1);
        Due.laidRoom(x, 4, 3, 1, 1);
        x.cut(1, 2, 0, 5000);
        x.cut(1, 0, 0, 3000);
        x.day();
        int[][] due = {{0, 1, 2, 5000, 2340, 2660}, {1, 1, 0, 3000, 2340, 0}};
        for (int i = 0; i < 2; i++) {
            for (int what = 0; what <= 5; what++) {
                DUE.due("line(" + i + ", " + what + ")", x.line(i, what), due[i][what]);
            }
        }
        DUE.due("all of them are right", x.check(), -1);
        DUE.told(x, "one is altered", x.alter(1, 5, 6), 0);
        DUE.due("it reads", x.line(1, 5), 6);
        DUE.due("the first that isn't right", x.check(), 1);
    }
}
