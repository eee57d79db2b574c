/** The edges that term IV names of THE WAY and of sending, and promises 18 to 22 and 24, each with its sentence. */
public final class EdgesOfTheWayTest {
    private static final int[] WILD = {Integer.MIN_VALUE, Integer.MAX_VALUE};
    private static final Due DUE = new Due();

    public static void main(String[] args) {
        sixStretches();
        daysOfAStretch();
        kindsOfAStretch();
        theOrderOfWay();
        homes();
        withoutStretches();
        stretchesWithoutDays();
        fromTodayOn();
        withoutSalt();
        wayInFrost();
        atMostWhatItWeighs();
        belowLeast();
        daysBehindTheLast();
        howManyCome();
        comesFromNoRoom();
        notSoManyCome();
        theOrderOfComes();
        comesChangesNothing();
        gramsToSend();
        sendFromNoRoom();
        theFewestBlocks();
        shortOfWhatIsMissing();
        shortOnesLie();
        theOrderOfSend();
        sentAheadOfAny();
        sentOfAnother();
        sentWhileShort();
        sentOfRefusedOnes();
        billsAreCut();
        spoiltOnesBill();
        theGreatestBill();
        kindsOfPrices();
        cents();
        DUE.end();
    }

    private static IceTrade withBlocks(float degrees, int... grams) {
        IceTrade x = new IceTrade();
        Due.laidRoom(x, 0, 6, 1, 1);
        Due.warm(x, 0, degrees);
        for (int i = 0; i < grams.length; i++) {
            x.cut(0, i, 0, grams[i]);
        }
        return x;
    }

    private static void sixStretches() {
        DUE.says("IV", "THE WAY: up to 6 STRETCHES", "Promise 18: -6");
        IceTrade x = new IceTrade();
        for (int i = 1; i <= 6; i++) {
            DUE.told(x, "stretch " + i, x.way(3, 1), i);
        }
        DUE.told(x, "a seventh", x.way(3, 1), -6);
        DUE.told(x, "a seventh without days", x.way(4, 0), -6);
        DUE.due("stretches", x.count(11), 6);
        DUE.due("days", x.count(12), 6);
        x.home();
        DUE.told(x, "the first of a new way", x.way(3, 1), 1);
    }

    private static void daysOfAStretch() {
        DUE.says("IV", "each 0 .. 20 days on a CART or BOAT", "Promise 18: -1");
        IceTrade x = new IceTrade();
        int[] bad = {-1, 21, WILD[0], WILD[1]};
        for (int days : bad) {
            DUE.told(x, "way(3, " + days + ")", x.way(3, days), -1);
            DUE.told(x, "way(4, " + days + ")", x.way(4, days), -1);
        }
        DUE.due("stretches", x.count(11), 0);
        DUE.told(x, "way(3, 0)", x.way(3, 0), 1);
        DUE.told(x, "way(4, 20)", x.way(4, 20), 2);
        DUE.due("days", x.count(12), 20);
    }

    private static void kindsOfAStretch() {
        DUE.says("Promise 18", "One more STRETCH on a CART (kind 4) or BOAT (3): how many. -1", "kind");
        IceTrade x = new IceTrade();
        int[] bad = {-1, 0, 1, 2, 5, 6, WILD[0], WILD[1]};
        for (int kind : bad) {
            DUE.told(x, "way(" + kind + ", 1)", x.way(kind, 1), -1);
        }
        DUE.told(x, "way(4, 1)", x.way(4, 1), 1);
        DUE.told(x, "way(3, 1)", x.way(3, 1), 2);
    }

    private static void theOrderOfWay() {
        DUE.says("REFUSED", "The first of these in that order", "way: -1 ahead of -6");
        IceTrade x = new IceTrade();
        for (int i = 0; i < 6; i++) {
            x.way(3, 1);
        }
        DUE.told(x, "a seventh of no kind", x.way(0, 1), -1);
        DUE.told(x, "a seventh of 21 days", x.way(3, 21), -1);
    }

    private static void homes() {
        DUE.says("Promise 19", "THE WAY has no STRETCHES: how many it had");
        IceTrade x = new IceTrade();
        DUE.due("of none", x.home(), 0);
        for (int n = 1; n <= 6; n++) {
            for (int i = 0; i < n; i++) {
                x.way(4, 20);
            }
            DUE.due("of " + n, x.home(), n);
            DUE.due("stretches", x.count(11), 0);
            DUE.due("days", x.count(12), 0);
        }
        DUE.due("again", x.home(), 0);
    }

    private static void withoutStretches() {
        DUE.says("IV", "What BLOCKS COME to is what they weigh together at THE WAY's end", "no STRETCHES");
        IceTrade x = withBlocks(60f, 1000, 2000);
        DUE.due("without a way", x.comes(0, 2), 3000);
        x.terms(40, 200, 1000000);
        DUE.due("below LEAST, but at no day's end", x.comes(0, 2), 3000);
        x.way(3, 1);
        x.home();
        DUE.due("back home", x.comes(0, 2), 3000);
    }

    private static void stretchesWithoutDays() {
        DUE.says("IV", "each 0 .. 20 days on a CART or BOAT", "0 days");
        IceTrade x = withBlocks(60f, 1000, 2000);
        x.terms(40, 200, 1000000);
        for (int i = 0; i < 6; i++) {
            x.way(3 + i % 2, 0);
        }
        DUE.due("comes(0, 2)", x.comes(0, 2), 3000);
        DUE.due("days", x.count(12), 0);
        DUE.due("send(0, 3000)", x.send(0, 3000), 2);
    }

    private static void fromTodayOn() {
        DUE.says("IV", "on its first day (TODAY), and on, it loses six sides in air by the WARMTH of a CART or BOAT");
        IceTrade x = withBlocks(-60f, 1000000);
        for (int day = 1; day <= 6; day++) {
            Due.warm(x, day, day);
        }
        x.day();
        x.way(3, 1);
        DUE.due("day 1 on a boat", x.comes(0, 1), 1000000 - 18 * 20);
        x.way(4, 2);
        DUE.due("days 2 and 3 on a cart", x.comes(0, 1), 1000000 - 18 * (20 + 50 + 60));
        x.way(4, 0);
        x.way(3, 1);
        DUE.due("day 4 on a boat", x.comes(0, 1), 1000000 - 18 * (20 + 50 + 60 + 50));
        x.home();
        for (int i = 0; i < 6; i++) {
            x.way(4, 20);
        }
        DUE.due("120 days", x.comes(0, 1), 1000000 - 18 * (40 + 50 + 60 + 70 + 80 + 90 * 115));
    }

    private static void withoutSalt() {
        DUE.says("IV", "On it a BLOCK is alone: [..] by the WARMTH of a CART or BOAT without SALT");
        IceTrade x = new IceTrade();
        Due.laidRoom(x, 0, 2, 1, 1);
        x.cut(0, 0, 2, 50000);
        x.cut(0, 1, 2, 50000);
        x.way(4, 1);
        DUE.due("RATE 5, 30 tenths, six sides each", x.comes(0, 2), 2 * (50000 - 6 * 5 * 30));
        DUE.due("comes(0, 1)", x.comes(0, 1), 50000 - 6 * 5 * 30);
    }

    private static void wayInFrost() {
        DUE.says("III", "GRAMS are RATE times the WARMTH, if that is above 0, else 0", "on THE WAY");
        float[] degrees = {-60f, -3f, -2.9f, -1f, -0.9f};
        int[] cart = {0, 0, 1, 20, 21};
        int[] boat = {0, 0, 0, 0, 1};
        for (int i = 0; i < degrees.length; i++) {
            IceTrade x = withBlocks(degrees[i], 50000);
            x.way(4, 1);
            DUE.due("a cart at " + degrees[i], x.comes(0, 1), 50000 - 18 * cart[i]);
            x.home();
            x.way(3, 1);
            DUE.due("a boat at " + degrees[i], x.comes(0, 1), 50000 - 18 * boat[i]);
        }
    }

    private static void atMostWhatItWeighs() {
        DUE.says("IV", "it loses six sides in air [..], at most what it weighs");
        IceTrade x = withBlocks(60f, 10000);
        x.terms(40, 200, 1);
        x.way(4, 1);
        // a cart has 630 tenths: 11340 grams
        DUE.due("more than it weighs", x.comes(0, 1), 0);
        x.way(4, 1);
        DUE.due("a day more", x.comes(0, 1), 0);
        IceTrade y = withBlocks(60f, 11340, 11341);
        y.terms(40, 200, 1);
        y.way(4, 1);
        DUE.due("just what it weighs, and one gram more", y.comes(0, 2), 1);
    }

    private static void belowLeast() {
        DUE.says("IV", "at a day's end below LEAST it is nothing");
        int[] grams = {1539, 1540, 1541};
        for (int g : grams) {
            IceTrade x = withBlocks(0f, g);
            x.way(4, 1);
            DUE.due("one day of " + g, x.comes(0, 1), g < 1540 ? 0 : g - 540);
        }
        IceTrade y = withBlocks(-60f, 4999, 5000);
        y.terms(40, 200, 5000);
        y.way(4, 1);
        DUE.due("without loss too", y.comes(0, 2), 5000);
        IceTrade z = withBlocks(0f, 2079, 2080);
        z.way(4, 1);
        z.way(4, 1);
        DUE.due("on the second day", z.comes(0, 2), 1000);
    }

    private static void daysBehindTheLast() {
        DUE.says("IV", "(Days behind 199 are as 199.)");
        IceTrade x = withBlocks(-60f, 1000000);
        Due.warm(x, 198, 1f);
        Due.warm(x, 199, 2f);
        Due.days(x, 198);
        x.way(3, 1);
        DUE.due("day 198", x.comes(0, 1), 1000000 - 18 * 20);
        x.way(3, 1);
        DUE.due("day 199", x.comes(0, 1), 1000000 - 18 * (20 + 30));
        x.way(3, 20);
        DUE.due("20 days behind it", x.comes(0, 1), 1000000 - 18 * (20 + 21 * 30));
        x.day();
        DUE.due("from day 199 on", x.comes(0, 1), 1000000 - 180 - 18 * 22 * 30);
    }

    private static void howManyCome() {
        DUE.says("Promise 20", "What n BLOCKS (0 .. 300) that would be TAKEN from a ROOM COME to", "-1");
        IceTrade x = withBlocks(0f, 1000);
        int[] bad = {-1, 301, WILD[0], WILD[1]};
        for (int n : bad) {
            DUE.due("comes(0, " + n + ")", x.comes(0, n), -1);
        }
        DUE.due("comes(0, 0)", x.comes(0, 0), 0);
        DUE.due("comes(0, 1)", x.comes(0, 1), 1000);
        DUE.due("comes(0, 300): it has not so many", x.comes(0, 300), -6);
        IceTrade y = new IceTrade();
        Due.laidRoom(y, 0, 6, 6, 5);
        DUE.due("none of an empty room", y.comes(0, 0), 0);
        for (int place = 0; place < 180; place++) {
            y.cut(0, place, 0, 1000000);
        }
        DUE.due("all of a full one", y.comes(0, 180), 180000000);
    }

    private static void comesFromNoRoom() {
        DUE.says("Promise 20", "-1; -2; -6", "-2");
        IceTrade x = withBlocks(0f, 1000);
        int[] none = {-1, 1, 8, WILD[0], WILD[1]};
        for (int room : none) {
            DUE.due("comes(" + room + ", 1)", x.comes(room, 1), -2);
            DUE.due("comes(" + room + ", 0)", x.comes(room, 0), -2);
        }
    }

    private static void notSoManyCome() {
        DUE.says("Promise 20", "-1; -2; -6", "-6");
        IceTrade x = withBlocks(0f, 1000, 2000);
        Due.laidRoom(x, 0, 1, 1, 1);
        DUE.due("an empty room", x.comes(1, 1), -6);
        DUE.due("two", x.comes(0, 2), 3000);
        DUE.due("three of two", x.comes(0, 3), -6);
        x.take(0, 1);
        DUE.due("two of one", x.comes(0, 2), -6);
    }

    private static void theOrderOfComes() {
        DUE.says("REFUSED", "The first of these in that order", "comes");
        IceTrade x = withBlocks(0f);
        DUE.due("-1 ahead of -2", x.comes(1, -1), -1);
        DUE.due("-1 ahead of -2", x.comes(-1, 301), -1);
        DUE.due("-1 ahead of -6", x.comes(0, 301), -1);
        DUE.due("-2 ahead of -6", x.comes(1, 1), -2);
    }

    private static void comesChangesNothing() {
        DUE.says("Promise 20", "What n BLOCKS (0 .. 300) that would be TAKEN from a ROOM COME to", "all lies as it did");
        IceTrade x = new IceTrade();
        Due.laidRoom(x, 0, 2, 1, 2);
        Due.warm(x, 0, 10f);
        x.cut(0, 0, 0, 50000);
        x.cut(0, 2, 2, 40000);
        int[] loss = {x.block(0, 8), x.block(1, 8)};
        x.way(4, 1);
        DUE.due("comes(0, 2)", x.comes(0, 2), 90000 - 18 * 130 - 30 * 130);
        DUE.due("comes(0, 3)", x.comes(0, 3), -6);
        for (int block = 0; block < 2; block++) {
            DUE.due("its room", x.block(block, 2), 0);
            DUE.due("its place", x.block(block, 3), 2 * block);
            DUE.due("its loss", x.block(block, 8), loss[block]);
            DUE.due("place(0, " + 2 * block + ")", x.place(0, 2 * block), 10 + block);
        }
        DUE.due("WARMTH", x.rooms(0, 5), 98);
        DUE.due("sold", x.count(3), 0);
        DUE.due("taken", x.count(15), 0);
        DUE.due("in rooms", x.count(9), 2);
    }

    private static void gramsToSend() {
        DUE.says("Promise 21", "Grams (1 .. 100000000) are SENT from a ROOM", "-1");
        IceTrade x = withBlocks(0f, 1000);
        int[] bad = {0, -1, 100000001, WILD[0], WILD[1]};
        for (int grams : bad) {
            DUE.told(x, "send(0, " + grams + ")", x.send(0, grams), -1);
        }
        DUE.told(x, "send(0, 100000000)", x.send(0, 100000000), -6);
        DUE.told(x, "send(0, 1)", x.send(0, 1), 1);
        IceTrade y = new IceTrade();
        Due.laidRoom(y, 0, 6, 6, 5);
        for (int place = 0; place < 101; place++) {
            y.cut(0, place, 0, 1000000);
        }
        DUE.told(y, "100000000 grams", y.send(0, 100000000), 100);
        DUE.due("sent(1)", y.sent(1), 100000000);
    }

    private static void sendFromNoRoom() {
        DUE.says("Promise 21", "-1; -2; -6: SHORT", "-2");
        IceTrade x = withBlocks(0f, 1000);
        int[] none = {-1, 1, 8, WILD[0], WILD[1]};
        for (int room : none) {
            DUE.told(x, "send(" + room + ", 1)", x.send(room, 1), -2);
        }
        DUE.due("it lies there", x.place(0, 0), 10);
    }

    private static void theFewestBlocks() {
        DUE.says("IV", "the fewest BLOCKS, TAKEN one by one, that COME to no less");
        int[] grams = {2999, 3000, 3001, 5999, 6000, 6001, 9000};
        int[] blocks = {1, 1, 2, 2, 2, 3, 3};
        for (int i = 0; i < grams.length; i++) {
            IceTrade x = withBlocks(-60f, 3000, 3000, 3000);
            DUE.told(x, "send(0, " + grams[i] + ")", x.send(0, grams[i]), blocks[i]);
            DUE.due("they come to", x.sent(1), 3000 * blocks[i]);
            DUE.due("in rooms", x.count(9), 3 - blocks[i]);
            DUE.due("sold", x.count(3), 3000 * blocks[i]);
        }
        IceTrade y = withBlocks(0f, 3540, 3540);
        y.way(4, 1);
        DUE.told(y, "just what the first comes to", y.send(0, 3000), 1);
        IceTrade z = withBlocks(0f, 3540, 3540);
        z.way(4, 1);
        DUE.told(z, "one gram more", z.send(0, 3001), 2);
        IceTrade v = withBlocks(0f, 1100, 5540);
        v.way(4, 1);
        DUE.told(v, "one that comes to nothing is taken too", v.send(0, 5000), 2);
    }

    private static void shortOfWhatIsMissing() {
        DUE.says("IV", "if all that can be TAKEN come to less: SHORT of what is missing");
        IceTrade x = withBlocks(0f, 3000, 3000);
        DUE.told(x, "one gram short", x.send(0, 6001), -6);
        DUE.due("sent(0)", x.sent(0), 1);
        DUE.told(x, "the most", x.send(0, 100000000), -6);
        DUE.due("sent(0)", x.sent(0), 100000000 - 6000);
        x.way(4, 1);
        DUE.told(x, "on a way", x.send(0, 6000), -6);
        DUE.due("sent(0)", x.sent(0), 1080);
        Due.laidRoom(x, 0, 1, 1, 1);
        DUE.told(x, "from an empty room", x.send(1, 1), -6);
        DUE.due("sent(0)", x.sent(0), 1);
    }

    private static void shortOnesLie() {
        DUE.says("IV", "and all lies as it did");
        IceTrade x = new IceTrade();
        Due.laidRoom(x, 0, 2, 1, 2);
        Due.warm(x, 0, 10f);
        x.cut(0, 0, 0, 50000);
        x.cut(0, 2, 2, 40000);
        DUE.told(x, "short", x.send(0, 90001), -6);
        for (int block = 0; block < 2; block++) {
            DUE.due("its room", x.block(block, 2), 0);
            DUE.due("its place", x.block(block, 3), 2 * block);
            DUE.due("place(0, " + 2 * block + ")", x.place(0, 2 * block), 10 + block);
        }
        DUE.due("WARMTH", x.rooms(0, 5), 98);
        DUE.due("sold", x.count(3), 0);
        DUE.due("taken", x.count(15), 0);
        DUE.due("THE NEXT", x.next(0), 1);
    }

    private static void theOrderOfSend() {
        DUE.says("REFUSED", "The first of these in that order", "send");
        IceTrade x = withBlocks(0f);
        DUE.told(x, "-1 ahead of -2", x.send(1, 0), -1);
        DUE.told(x, "-1 ahead of -6", x.send(0, 100000001), -1);
        DUE.told(x, "-2 ahead of -6", x.send(1, 1), -2);
    }

    private static void sentAheadOfAny() {
        DUE.says("Promise 22", "0 ahead of any");
        IceTrade x = withBlocks(0f, 1000);
        x.take(0, 1);
        for (int what = 0; what <= 2; what++) {
            DUE.due("sent(" + what + ")", x.sent(what), 0);
        }
    }

    private static void sentOfAnother() {
        DUE.says("Promise 22", "-1 for others");
        IceTrade x = withBlocks(0f, 1000);
        int[] others = {-1, 3, WILD[0], WILD[1]};
        for (int what : others) {
            DUE.due("sent(" + what + ") ahead of any", x.sent(what), -1);
        }
        x.send(0, 1);
        for (int what : others) {
            DUE.due("sent(" + what + ")", x.sent(what), -1);
        }
    }

    private static void sentWhileShort() {
        DUE.says("Promise 22", "0 grams it was SHORT of (0), 1 what they COME to (0 if SHORT), 2 BILL (0)");
        IceTrade x = withBlocks(-60f, 3000, 3000);
        x.price(0, 1000);
        x.send(0, 3000);
        int[] sent = {0, 3000, 3000};
        for (int what = 0; what <= 2; what++) {
            DUE.due("sent(" + what + ")", x.sent(what), sent[what]);
        }
        x.send(0, 3500);
        int[] missing = {500, 0, 0};
        for (int what = 0; what <= 2; what++) {
            DUE.due("sent(" + what + ") if SHORT", x.sent(what), missing[what]);
        }
        x.send(0, 2500);
        for (int what = 0; what <= 2; what++) {
            DUE.due("sent(" + what + ") again", x.sent(what), sent[what]);
        }
    }

    private static void sentOfRefusedOnes() {
        DUE.says("Promise 22", "Of the latest send() that was not -1 or -2");
        IceTrade x = withBlocks(-60f, 3000, 3000);
        x.price(0, 1000);
        x.send(0, 3000);
        x.send(0, 0);
        x.send(1, 1);
        x.take(0, 1);
        int[] due = {0, 3000, 3000};
        for (int what = 0; what <= 2; what++) {
            DUE.due("sent(" + what + ")", x.sent(what), due[what]);
        }
        x.send(0, 7);
        x.send(0, 100000001);
        x.send(-1, 1);
        DUE.due("SHORT of 7", x.sent(0), 7);
    }

    private static void billsAreCut() {
        DUE.says("IV", "BILL: of each of them what it weighs as it is TAKEN times the PRICE of its kind [..] / 1000, cut");
        IceTrade x = withBlocks(-60f, 1999, 1999);
        x.price(0, 1);
        x.send(0, 3998);
        DUE.due("1.999 twice: each is cut", x.sent(2), 2);
        IceTrade y = withBlocks(0f, 10000);
        y.price(0, 100);
        y.way(4, 10);
        y.send(0, 1);
        DUE.due("as it is taken, not as it comes", y.sent(2), 1000);
        int[] grams = {1999, 2000, 2001};
        for (int g : grams) {
            IceTrade z = withBlocks(-60f, g);
            z.price(0, 1);
            z.send(0, 1);
            DUE.due("one cent for " + g, z.sent(2), g / 1000);
        }
    }

    private static void spoiltOnesBill() {
        DUE.says("IV", "(a SPOILT CLEAR one's that of a plain one)");
        IceTrade x = new IceTrade();
        Due.laidRoom(x, 5, 2, 1, 1);
        x.price(0, 10);
        x.price(1, 2000);
        x.price(2, 300);
        x.terms(40, 0, 1000);
        Due.warm(x, 0, -60f);
        x.cut(0, 0, 1, 1000);
        x.send(0, 1);
        DUE.due("a clear one that is not spoilt yet", x.sent(2), 2000);
        x.cut(0, 0, 1, 1000);
        x.day();
        DUE.due("it is spoilt on day 0", x.block(1, 5), 0);
        x.send(0, 1);
        DUE.due("a spoilt one", x.sent(2), 10);
        x.cut(0, 0, 2, 1000);
        x.day();
        x.send(0, 1);
        DUE.due("a salt one", x.sent(2), 300);
    }

    private static void theGreatestBill() {
        DUE.says("Promise 24", "The PRICE of a kind for a kilo is cents (0 .. 5000; 0 at first)",
            "5000 cents for 180 BLOCKS of 1000000 grams");
        IceTrade x = new IceTrade();
        Due.laidRoom(x, 0, 6, 6, 5);
        x.price(0, 5000);
        for (int place = 0; place < 180; place++) {
            x.cut(0, place, 0, 1000000);
        }
        // 80 days on a cart at 27.8 degrees leave little more than half of each: all of them are needed
        Due.warm(x, 0, 27.8f);
        for (int i = 0; i < 4; i++) {
            x.way(4, 20);
        }
        int one = 1000000 - 80 * 18 * 308;
        DUE.due("comes(0, 1)", x.comes(0, 1), one);
        DUE.due("all of them", x.send(0, 100000000), 180);
        DUE.due("what they come to", x.sent(1), 180 * one);
        DUE.due("the bill", x.sent(2), 900000000);
    }

    private static void kindsOfPrices() {
        DUE.says("Promise 24", "The PRICE of a kind for a kilo is cents (0 .. 5000; 0 at first): 0; -1", "kind");
        IceTrade x = new IceTrade();
        int[] bad = {-1, 3, WILD[0], WILD[1]};
        for (int kind : bad) {
            DUE.told(x, "price(" + kind + ", 1)", x.price(kind, 1), -1);
        }
        for (int kind = 0; kind <= 2; kind++) {
            DUE.told(x, "price(" + kind + ", 1)", x.price(kind, kind + 1), 0);
        }
        Due.laidRoom(x, 0, 1, 1, 1);
        for (int kind = 0; kind <= 2; kind++) {
            x.cut(0, 0, kind, 1000);
            x.send(0, 1);
            DUE.due("the bill of kind " + kind, x.sent(2), kind + 1);
        }
    }

    private static void cents() {
        DUE.says("Promise 24", "cents (0 .. 5000; 0 at first): 0; -1", "cents");
        int[] good = {0, 1, 4999, 5000};
        int[] bad = {-1, 5001, WILD[0], WILD[1]};
        for (int cents : good) {
            IceTrade x = withBlocks(-60f, 1000);
            x.price(0, 77);
            DUE.told(x, "price(0, " + cents + ")", x.price(0, cents), 0);
            x.send(0, 1);
            DUE.due("the bill", x.sent(2), cents);
        }
        for (int cents : bad) {
            IceTrade x = withBlocks(-60f, 1000);
            x.price(0, 77);
            DUE.told(x, "price(0, " + cents + ")", x.price(0, cents), -1);
            x.send(0, 1);
            DUE.due("the bill is by the price that was", x.sent(2), 77);
        }
    }
}
