/** The edges that promise 1 and the terms name of an object that is new, each with its sentence. */
public final class EdgesOfANewObjectTest {
    private static final Due DUE = new Due();

    public static void main(String[] args) {
        noRooms();
        noBlocks();
        nothingTold();
        todayIsFirst();
        termsAtFirst();
        pricesAtFirst();
        none();
        fiveHundredAndTwelveCalls();
        DUE.end();
    }

    private static void noRooms() {
        DUE.says("Promise 1", "No ROOMS");
        IceTrade x = new IceTrade();
        for (int room = 0; room < 8; room++) {
            DUE.due("rooms(" + room + ", 0)", x.rooms(room, 0), -2);
            DUE.due("place(" + room + ", 0)", x.place(room, 0), -2);
            DUE.due("next(" + room + ")", x.next(room), -2);
        }
        DUE.due("count(10)", x.count(10), 0);
        DUE.due("in room 0, which is not yet", x.room(2, 1, 1, 1, 0), -1);
        DUE.due("the first room", x.room(0, 1, 1, 1, -1), 0);
    }

    private static void noBlocks() {
        DUE.says("Promise 1", "No ROOMS, BLOCKS");
        IceTrade x = new IceTrade();
        for (int block = 0; block < 300; block++) {
            DUE.due("block(" + block + ", 0)", x.block(block, 0), -2);
        }
        int[] counts = {1, 2, 3, 4, 5, 6, 7, 8, 9, 13, 14, 15};
        for (int what : counts) {
            DUE.due("count(" + what + ")", x.count(what), 0);
        }
        Due.laidRoom(x, 0, 1, 1, 1);
        DUE.due("a new room holds nothing", x.place(0, 0), 0);
        DUE.due("the first block", x.cut(0, 0, 0, 1000), 0);
    }

    private static void nothingTold() {
        DUE.says("Promise 1", "nothing told");
        IceTrade x = new IceTrade();
        for (int day = 0; day < 200; day++) {
            DUE.due("tenths(" + day + ")", x.tenths(day), 0);
        }
        DUE.due("no stretches", x.count(11), 0);
        DUE.due("no days of them", x.count(12), 0);
        DUE.due("no heap", x.count(14), 0);
        for (int what = 0; what <= 2; what++) {
            DUE.due("sent(" + what + ")", x.sent(what), 0);
        }
        DUE.due("list(0)", x.list(0), -1);
        DUE.due("foretold(-1, 0)", x.foretold(-1, 0), -1);
        DUE.due("last()", x.last(), -1);
        DUE.due("check()", x.check(), -7);
        DUE.due("line(0, 0)", x.line(0, 0), -2);
        for (int k = 0; k < 4; k++) {
            DUE.due("back(" + k + ")", x.back(k), -2);
        }
    }

    private static void todayIsFirst() {
        DUE.says("I", "TODAY is 0 at first");
        IceTrade x = new IceTrade();
        DUE.due("count(0)", x.count(0), 0);
        Due.laidRoom(x, 0, 1, 1, 1);
        x.cut(0, 0, 0, 1000);
        DUE.due("the day on which it was cut", x.block(0, 4), 0);
    }

    private static void termsAtFirst() {
        DUE.says("III", "PART is 40, WET 200, LEAST 1000 at first");
        IceTrade x = new IceTrade();
        Due.laidRoom(x, 5, 2, 1, 1);
        Due.warm(x, 0, 2f);
        x.cut(0, 0, 0, 2960);
        x.put(0, 1, 0);
        // a pit has (20 + 80) / 2 = 50 tenths: five sides of 150, one of 40 parts of 100 of it, and 200
        DUE.due("its loss", x.block(0, 8), 5 * 150 + 60 + 200);
        IceTrade y = new IceTrade();
        Due.laidRoom(y, 0, 1, 1, 1);
        Due.warm(y, 0, 1f);
        y.cut(0, 0, 0, 1180);
        y.day();
        DUE.due("1000 grams are not", y.block(0, 1), 1000);
        IceTrade z = new IceTrade();
        Due.laidRoom(z, 0, 1, 1, 1);
        Due.warm(z, 0, 1f);
        z.cut(0, 0, 0, 1179);
        z.day();
        DUE.due("999 are", z.block(0, 1), 0);
    }

    private static void pricesAtFirst() {
        DUE.says("Promise 24", "The PRICE of a kind for a kilo is cents (0 .. 5000; 0 at first)", "0 at first");
        for (int kind = 0; kind <= 2; kind++) {
            IceTrade x = new IceTrade();
            Due.laidRoom(x, 0, 1, 1, 1);
            x.cut(0, 0, kind, 1000000);
            x.send(0, 1);
            DUE.due("the bill of kind " + kind, x.sent(2), 0);
        }
    }

    private static void none() {
        DUE.says("Terms", "NONE = -1: There is none.");
        DUE.due("NONE", IceTrade.NONE, -1);
    }

    private static void fiveHundredAndTwelveCalls() {
        DUE.says("What it is", "An object is used for at most 512 calls after it has been made");
        IceTrade x = new IceTrade();
        int calls = 0;
        for (int room = 0; room < 2; room++) {
            DUE.due("room " + room, x.room(0, 6, 6, 5, -1), room);
            calls++;
            for (int row = 0; row < 30; row++) {
                DUE.due("row " + row, x.lay(room, row / 6, row % 6), 0);
                calls++;
            }
        }
        for (int block = 0; block < 300; block++) {
            DUE.due("block " + block, x.cut(block / 180, block % 180, 0, 1000000), block);
            calls++;
        }
        while (calls < 511) {
            DUE.due("a day without warmth", x.day(), 0);
            calls++;
        }
        DUE.due("the 512th call", x.count(2), 300000000);
    }
}
