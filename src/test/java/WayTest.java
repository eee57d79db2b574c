/** Promises 18 to 22 and 24: way, home, comes, send, sent, price. */
public final class WayTest {
    private static final Due DUE = new Due();

    public static void main(String[] args) {
        stretches();
        whatBlocksComeTo();
        belowLeastIsNothing();
        daysBehindTheLast();
        comesIsRefused();
        whatIsSent();
        shortOnes();
        bills();
        DUE.end();
    }

    private static void stretches() {
        IceTrade x = new IceTrade();
        DUE.due("home() at first", x.home(), 0);
        for (int kind = -1; kind <= 6; kind++) {
            if (kind != 3 && kind != 4) {
                DUE.due("way(" + kind + ", 1)", x.way(kind, 1), -1);
            }
        }
        DUE.due("way(3, -1)", x.way(3, -1), -1);
        DUE.due("way(4, 21)", x.way(4, 21), -1);
        for (int i = 1; i <= 6; i++) {
            DUE.due("stretch " + i, x.way(3 + i % 2, 20), i);
        }
        DUE.due("one more", x.way(3, 0), -6);
        DUE.due("one more that can't be", x.way(3, 21), -1);
        DUE.due("count(12)", x.count(12), 120);
        DUE.due("home()", x.home(), 6);
        DUE.due("count(11)", x.count(11), 0);
        DUE.due("count(12)", x.count(12), 0);
        DUE.due("home()", x.home(), 0);
        DUE.due("way(4, 0)", x.way(4, 0), 1);
    }

    private static void whatBlocksComeTo() {
        IceTrade x = new IceTrade();
        Due.warm(x, 0, 10f);
        Due.warm(x, 1, 20f);
        Due.warm(x, 2, -2f);
        Due.laidRoom(x, 0, 3, 1, 1);
        x.cut(0, 0, 0, 100000);
        x.cut(0, 2, 2, 100000);
        DUE.due("without a way", x.comes(0, 2), 200000);
        DUE.due("comes(0, 0)", x.comes(0, 0), 0);
        x.way(3, 1);
        // a boat has 110 tenths, without the salt: the salt one is next
        DUE.due("the salt one", x.comes(0, 1), 100000 - 30 * 110);
        DUE.due("both", x.comes(0, 2), 200000 - 48 * 110);
        x.way(4, 0);
        x.way(4, 2);
        // days 1 and 2 on a cart: 230 and 10 tenths
        DUE.due("both", x.comes(0, 2), 200000 - 48 * (110 + 240));
        x.way(3, 1);
        DUE.due("a frosty day on a boat", x.comes(0, 2), 200000 - 48 * (110 + 240));
        DUE.due("all lies as it did", x.count(9), 2);
        DUE.due("place(0, 2)", x.place(0, 2), 11);
        DUE.due("rooms(0, 5)", x.rooms(0, 5), 98);
        x.day();
        DUE.due("from TODAY on", x.comes(0, 1), 100000 - 2940 - 30 * (210 + 10 + 10));
    }

    private static void belowLeastIsNothing() {
        IceTrade x = new IceTrade();
        Due.warm(x, 0, 9f);
        Due.laidRoom(x, 0, 1, 1, 1);
        x.cut(0, 0, 0, 2800);
        x.way(3, 1);
        DUE.due("just LEAST", x.comes(0, 1), 1000);
        x.terms(40, 200, 1001);
        DUE.due("below it", x.comes(0, 1), 0);
        x.home();
        x.terms(40, 200, 5000);
        DUE.due("without a day's end it is what it weighs", x.comes(0, 1), 2800);
        x.way(4, 0);
        DUE.due("nor on a stretch of none", x.comes(0, 1), 2800);
        Due.warm(x, 0, -60f);
        x.way(4, 1);
        DUE.due("at a day's end without loss too", x.comes(0, 1), 0);
    }

    private static void daysBehindTheLast() {
        IceTrade x = new IceTrade();
        Due.warm(x, 199, 10f);
        Due.laidRoom(x, 0, 1, 1, 1);
        for (int d = 0; d < 198; d++) {
            x.day();
        }
        x.cut(0, 0, 0, 1000000);
        x.way(4, 5);
        DUE.due("day 198, and four as 199", x.comes(0, 1), 1000000 - 18 * (30 + 4 * 130));
    }

    private static void comesIsRefused() {
        IceTrade x = new IceTrade();
        Due.laidRoom(x, 0, 1, 1, 1);
        x.cut(0, 0, 0, 5000);
        DUE.due("comes(0, -1)", x.comes(0, -1), -1);
        DUE.due("comes(0, 301)", x.comes(0, 301), -1);
        DUE.due("comes(9, 301): -1 is first", x.comes(9, 301), -1);
        DUE.due("comes(1, 0)", x.comes(1, 0), -2);
        DUE.due("comes(0, 2)", x.comes(0, 2), -6);
        DUE.due("comes(0, 300)", x.comes(0, 300), -6);
        DUE.due("comes(0, 1)", x.comes(0, 1), 5000);
    }

    private static void whatIsSent() {
        IceTrade x = new IceTrade();
        Due.laidRoom(x, 0, 4, 1, 1);
        for (int i = 0; i < 4; i++) {
            x.cut(0, i, 0, 10000 + i);
        }
        x.way(4, 1);
        // at 0 outside a cart takes 540 of each
        DUE.due("send(0, 9461): the first comes to one less", x.send(0, 9461), 2);
        DUE.due("list(0)", x.list(0), 0);
        DUE.due("list(1)", x.list(1), 1);
        DUE.due("sent(0)", x.sent(0), 0);
        DUE.due("sent(1)", x.sent(1), 9460 + 9461);
        DUE.due("sold is what they weighed", x.count(3), 20001);
        DUE.due("block(1, 1)", x.block(1, 1), 10001);
        DUE.due("block(1, 2)", x.block(1, 2), -1);
        DUE.due("send(0, 9462): just that", x.send(0, 9462), 1);
        DUE.due("send(0, 1)", x.send(0, 1), 1);
        DUE.due("sent(1)", x.sent(1), 9463);
        DUE.due("nothing is left", x.send(0, 1), -6);
        DUE.due("sent(0)", x.sent(0), 1);
        DUE.due("sent(3)", x.sent(3), -1);
        DUE.due("sent(-1)", x.sent(-1), -1);
    }

    private static void shortOnes() {
        IceTrade x = new IceTrade();
        Due.laidRoom(x, 0, 2, 1, 2);
        x.price(0, 100);
        x.price(2, 10);
        x.cut(0, 0, 0, 10000);
        x.cut(0, 2, 2, 10000);
        DUE.due("send(0, 5000)", x.send(0, 5000), 1);
        DUE.due("sent(2)", x.sent(2), 100);
        DUE.due("send(0, 10001)", x.send(0, 10001), -6);
        DUE.due("sent(0)", x.sent(0), 1);
        DUE.due("sent(1)", x.sent(1), 0);
        DUE.due("sent(2)", x.sent(2), 0);
        DUE.due("all lies as it did", x.place(0, 0), 10);
        DUE.due("block(0, 2)", x.block(0, 2), 0);
        DUE.due("block(0, 3)", x.block(0, 3), 0);
        DUE.due("count(3)", x.count(3), 10000);
        DUE.due("the latest that was not refused", x.list(0), 1);
        DUE.due("send(0, 0)", x.send(0, 0), -1);
        DUE.due("send(0, 100000001)", x.send(0, 100000001), -1);
        DUE.due("send(7, 0): -1 is first", x.send(7, 0), -1);
        DUE.due("send(7, 5)", x.send(7, 5), -2);
        DUE.due("-1 and -2 leave it", x.sent(0), 1);
        DUE.due("send(0, 100000000)", x.send(0, 100000000), -6);
        DUE.due("sent(0)", x.sent(0), 99990000);
        DUE.due("send(0, 10000)", x.send(0, 10000), 1);
        DUE.due("sent(0)", x.sent(0), 0);
        DUE.due("sent(2)", x.sent(2), 1000);
        DUE.due("take() leaves it", x.take(0, 1), -6);
        DUE.due("sent(1)", x.sent(1), 10000);
    }

    private static void bills() {
        IceTrade x = new IceTrade();
        DUE.due("price(-1, 0)", x.price(-1, 0), -1);
        DUE.due("price(3, 0)", x.price(3, 0), -1);
        DUE.due("price(0, -1)", x.price(0, -1), -1);
        DUE.due("price(0, 5001)", x.price(0, 5001), -1);
        Due.laidRoom(x, 0, 6, 1, 1);
        x.cut(0, 0, 1, 1999);
        x.cut(0, 1, 2, 1999);
        x.cut(0, 3, 1, 1999);
        x.cut(0, 5, 0, 1999);
        x.image(0);
        DUE.due("prices are 0 at first", x.send(0, 7996), 4);
        DUE.due("sent(2)", x.sent(2), 0);
        x.back(0);
        x.day();
        DUE.due("the first is spoilt", x.block(0, 5), 0);
        DUE.due("price(0, 11)", x.price(0, 11), 0);
        DUE.due("price(1, 5000)", x.price(1, 5000), 0);
        DUE.due("price(2, 3)", x.price(2, 3), 0);
        DUE.due("send", x.send(0, 7996), 4);
        DUE.due("each is cut", x.sent(2), 21 + 5 + 9995 + 21);
        IceTrade y = new IceTrade();
        Due.laidRoom(y, 0, 6, 6, 5);
        y.price(1, 5000);
        for (int i = 0; i < 180; i++) {
            y.cut(0, i, 1, 1000000);
        }
        DUE.due("the greatest", y.send(0, 100000000), 100);
        DUE.due("its bill", y.sent(2), 500000000);
    }
}
