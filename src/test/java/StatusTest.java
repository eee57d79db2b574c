/** Promise 35: status; and the order of refusals. */
public final class StatusTest {
    private static final Due DUE = new Due();

    public static void main(String[] args) {
        whatWasRefused();
        askingCallsLeaveIt();
        homeLeavesIt();
        DUE.end();
    }

    private static void refused(IceTrade x, String call, int got, int want) {
        DUE.due(call, got, want);
        DUE.due("status() behind " + call, x.status(), Math.min(want, 0));
    }

    private static void whatWasRefused() {
        IceTrade x = new IceTrade();
        DUE.due("ahead of any", x.status(), 0);
        refused(x, "back", x.back(0), -2);
        refused(x, "room", x.room(0, 2, 1, 2, -1), 0);
        refused(x, "lay", x.lay(0, 1, 0), -7);
        refused(x, "lay", x.lay(0, 0, 0), 0);
        refused(x, "tear", x.tear(0, 1, 0), -3);
        refused(x, "lay", x.lay(0, 1, 0), 0);
        refused(x, "cut", x.cut(0, 2, 0, 5000), -5);
        refused(x, "cut", x.cut(0, 0, 0, 5000), 0);
        refused(x, "cut", x.cut(0, 0, 0, 5000), -4);
        refused(x, "put", x.put(0, 1, 0), 0);
        refused(x, "clear", x.clear(0, 0), -7);
        refused(x, "clear", x.clear(0, 1), 0);
        refused(x, "warm", x.warm(200, 0), -1);
        refused(x, "warm", x.warm(0, 0x7FC00000), 0);
        refused(x, "terms", x.terms(-1, 0, 1), -1);
        refused(x, "terms", x.terms(40, 200, 1000), 0);
        refused(x, "take", x.take(0, 2), -6);
        refused(x, "day", x.day(), 0);
        refused(x, "way", x.way(0, 0), -1);
        refused(x, "way", x.way(3, 0), 1);
        refused(x, "send", x.send(0, 9999), -6);
        refused(x, "price", x.price(0, 1), 0);
        refused(x, "send", x.send(4, 9999), -2);
        refused(x, "send", x.send(0, 5000), 1);
        refused(x, "foretell", x.foretell(0, 0), -1);
        refused(x, "foretell", x.foretell(1, 0), 1);
        refused(x, "pack", x.pack(0), -7);
        refused(x, "heap", x.heap(0, 1000), 1);
        refused(x, "price", x.price(0, -1), -1);
        refused(x, "pack", x.pack(0), 6);
        refused(x, "heap", x.heap(0, 1), -1);
        refused(x, "image", x.image(0), 0);
        refused(x, "image", x.image(4), -1);
        refused(x, "back", x.back(0), 0);
        refused(x, "alter", x.alter(0, 0, 1), -2);
        refused(x, "take", x.take(0, 1), 1000);
    }

    private static void askingCallsLeaveIt() {
        IceTrade x = new IceTrade();
        Due.laidRoom(x, 0, 2, 1, 1);
        x.cut(0, 0, 0, 5000);
        x.day();
        x.foretell(2, 0);
        for (int due = 0; due >= -6; due -= 6) {
            if (due == -6) {
                x.take(0, 9);
            }
            int[] asked = {x.rooms(0, 0), x.rooms(9, 0), x.rooms(0, 99), x.place(0, 0), x.place(9, 0), x.place(0, 9),
                x.block(0, 0), x.block(9, 0), x.block(0, 99), x.tenths(0), x.tenths(-1), x.count(0), x.count(99), x.next(0),
                x.next(9), x.comes(0, 1), x.comes(9, 1), x.comes(0, -1), x.comes(0, 9), x.sent(0), x.sent(9), x.list(0),
                x.list(9), x.foretold(0, 0), x.foretold(9, 9), x.last(), x.line(0, 0), x.line(9, 0), x.line(0, 9), x.check(),
                x.status()};
            DUE.due("status() behind " + asked.length + " asking calls", x.status(), due);
        }
    }

    /** Nothing refuses home(), so it is not one of the calls that may be refused. */
    private static void homeLeavesIt() {
        IceTrade x = new IceTrade();
        x.home();
        DUE.due("status() behind home() alone", x.status(), 0);
        x.pack(0);
        x.home();
        DUE.due("status() behind home() without stretches", x.status(), -2);
        x.way(3, 2);
        x.way(0, 2);
        DUE.due("home()", x.home(), 1);
        DUE.due("status() behind home() with one stretch", x.status(), -1);
        x.way(4, 2);
        x.home();
        DUE.due("status() behind home(), the latest one not refused", x.status(), 0);
    }
}
