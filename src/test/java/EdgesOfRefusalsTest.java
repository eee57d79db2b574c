import java.util.function.ToIntFunction;

/** The edges that REFUSED and promise 35 name, each with its sentence. */
public final class EdgesOfRefusalsTest {
    private static final Due DUE = new Due();

    public static void main(String[] args) {
        aheadOfAny();
        byEachNumber();
        zeroIfItWasNot();
        theLatestCall();
        eachAskingCallLeavesIt();
        homeLeavesIt();
        nothingIsChanged();
        roomIsLookedAtFirst();
        whatOfNoRoom();
        DUE.end();
    }

    private static void aheadOfAny() {
        DUE.says("Promise 35", "0 if it was not, or ahead of any", "ahead of any");
        IceTrade x = new IceTrade();
        DUE.due("status()", x.status(), 0);
        x.rooms(0, 0);
        x.place(0, 0);
        x.comes(0, -1);
        x.check();
        DUE.due("status() behind asking calls alone", x.status(), 0);
    }

    private static void byEachNumber() {
        DUE.says("Promise 35", "What the latest call of those that may be REFUSED was REFUSED by", "each of the seven");
        IceTrade x = new IceTrade();
        x.room(0, 2, 1, 2, -1);
        DUE.told(x, "-1 a number that can't be", x.room(6, 1, 1, 1, -1), -1);
        DUE.told(x, "-2 there is none such", x.lay(1, 0, 0), -2);
        DUE.told(x, "-3 the ROW is not LAID", x.cut(0, 0, 0, 1000), -3);
        Due.layAll(x, 0);
        x.cut(0, 0, 0, 1000);
        DUE.told(x, "-4 the PLACE is not free", x.put(0, 0, 0), -4);
        DUE.told(x, "-5 nothing beneath", x.put(0, 3, 0), -5);
        DUE.told(x, "-6 no room, or too many", x.take(0, 2), -6);
        DUE.told(x, "-7 not as things are", x.clear(0, 0), -7);
    }

    /** Each call that may be refused, first refused and then not. */
    private static void zeroIfItWasNot() {
        DUE.says("Promise 35", "0 if it was not, or ahead of any", "it was not");
        IceTrade x = new IceTrade();
        DUE.told(x, "room", x.room(0, 0, 1, 1, -1), -1);
        DUE.told(x, "room", x.room(0, 2, 1, 2, -1), 0);
        DUE.told(x, "room", x.room(0, 0, 1, 1, -1), -1);
        DUE.told(x, "room, the second", x.room(0, 1, 1, 1, -1), 1);
        DUE.told(x, "lay", x.lay(0, 1, 0), -7);
        DUE.told(x, "lay", x.lay(0, 0, 0), 0);
        DUE.told(x, "tear", x.tear(0, 1, 0), -3);
        DUE.told(x, "tear", x.tear(0, 0, 0), 0);
        x.lay(0, 0, 0);
        DUE.told(x, "cut", x.cut(0, 0, 3, 1000), -1);
        DUE.told(x, "cut", x.cut(0, 0, 0, 5000), 0);
        DUE.told(x, "put", x.put(0, 0, 0), -4);
        DUE.told(x, "put", x.put(0, 1, 0), 0);
        DUE.told(x, "clear", x.clear(0, 0), -7);
        DUE.told(x, "clear", x.clear(0, 1), 0);
        DUE.told(x, "warm", x.warm(-1, 0), -1);
        DUE.told(x, "warm", Due.warm(x, 0, 1f), 0);
        DUE.told(x, "terms", x.terms(40, 200, 0), -1);
        DUE.told(x, "terms", x.terms(40, 200, 1000), 0);
        DUE.told(x, "alter", x.alter(0, 0, 1), -2);
        DUE.told(x, "day", x.day(), 180);
        DUE.told(x, "alter", x.alter(0, 0, 0), -1);
        DUE.told(x, "alter", x.alter(0, 0, 1), 0);
        DUE.told(x, "way", x.way(0, 0), -1);
        DUE.told(x, "way", x.way(3, 0), 1);
        DUE.told(x, "price", x.price(3, 0), -1);
        DUE.told(x, "price", x.price(2, 0), 0);
        DUE.told(x, "foretell", x.foretell(0, 0), -1);
        DUE.told(x, "foretell", x.foretell(1, 0), 1);
        DUE.told(x, "image", x.image(4), -1);
        DUE.told(x, "image", x.image(0), 0);
        DUE.told(x, "send", x.send(0, 9000), -6);
        DUE.told(x, "send", x.send(0, 1), 1);
        DUE.told(x, "back", x.back(1), -2);
        DUE.told(x, "back", x.back(0), 0);
        DUE.told(x, "take", x.take(0, 2), -6);
        DUE.told(x, "take", x.take(0, 1), 4820);
        DUE.told(x, "heap", x.heap(3, 1000), -1);
        DUE.told(x, "heap", x.heap(0, 1000), 1);
        DUE.told(x, "pack", x.pack(2), -2);
        x.lay(1, 0, 0);
        DUE.told(x, "pack", x.pack(1), 6);
        Due.days(x, 198);
        DUE.told(x, "day", x.day(), -7);
    }

    private static void theLatestCall() {
        DUE.says("Promise 35", "What the latest call of those that may be REFUSED was REFUSED by", "the latest");
        IceTrade x = new IceTrade();
        x.room(6, 1, 1, 1, -1);
        x.lay(0, 0, 0);
        DUE.due("-2 behind -1", x.status(), -2);
        x.image(9);
        DUE.due("-1 behind -2", x.status(), -1);
        DUE.due("asked twice", x.status(), -1);
        x.image(0);
        DUE.due("0 behind -1", x.status(), 0);
    }

    /** A pit, an inner room in it and a cart, with something of all that there is. */
    private static IceTrade furnished() {
        IceTrade x = new IceTrade();
        Due.laidRoom(x, 5, 3, 1, 2);
        x.room(2, 1, 1, 2, 0);
        Due.laidRoom(x, 4, 1, 1, 1);
        Due.warm(x, 0, 2f);
        Due.warm(x, 3, -2f);
        x.cut(0, 0, 1, 20000);
        x.cut(0, 3, 2, 30000);
        x.put(0, 1, 0);
        x.lay(1, 0, 0);
        x.cut(1, 0, 0, 10000);
        x.price(0, 10);
        x.way(4, 2);
        x.heap(1, 7000);
        x.image(0);
        x.day();
        x.send(1, 1);
        x.foretell(3, 1);
        return x;
    }

    private static void eachAskingCallLeavesIt() {
        DUE.says("Promise 35", "(Asking calls leave it: rooms, place, block, tenths, count, next, comes, sent,"
            + " list, foretold, last, line, check, status.)");
        String[] names = {"rooms", "rooms, -2", "rooms, -1", "place", "place, -1", "place, -2", "place, -3", "block",
            "block, -2", "block, -1", "tenths", "tenths, -1000", "count", "count, -1", "next", "next, -2", "next, NONE",
            "comes", "comes, -1", "comes, -2", "comes, -6", "sent", "sent, -1", "list", "list, NONE", "foretold",
            "foretold, -1", "last", "line", "line, -2", "line, -1", "check", "status"};
        for (int i = 0; i < names.length; i++) {
            IceTrade x = furnished();
            DUE.due("take(0, 9)", x.take(0, 9), -6);
            ask(x, i);
            DUE.due("status() behind " + names[i], x.status(), -6);
            IceTrade y = furnished();
            ask(y, i);
            DUE.due("status() behind " + names[i] + ", the latest one not refused", y.status(), 0);
        }
    }

    private static int ask(IceTrade x, int i) {
        switch (i) {
            case 0: return x.rooms(0, 0);
            case 1: return x.rooms(3, 0);
            case 2: return x.rooms(0, 12);
            case 3: return x.place(0, 0);
            case 4: return x.place(0, 6);
            case 5: return x.place(3, 0);
            case 6: return x.place(1, 1);
            case 7: return x.block(0, 0);
            case 8: return x.block(3, 0);
            case 9: return x.block(0, 10);
            case 10: return x.tenths(0);
            case 11: return x.tenths(200);
            case 12: return x.count(0);
            case 13: return x.count(16);
            case 14: return x.next(0);
            case 15: return x.next(3);
            case 16: return x.next(1);
            case 17: return x.comes(0, 2);
            case 18: return x.comes(0, 301);
            case 19: return x.comes(3, 1);
            case 20: return x.comes(0, 3);
            case 21: return x.sent(0);
            case 22: return x.sent(3);
            case 23: return x.list(0);
            case 24: return x.list(1);
            case 25: return x.foretold(0, 0);
            case 26: return x.foretold(0, 9);
            case 27: return x.last();
            case 28: return x.line(0, 0);
            case 29: return x.line(9, 0);
            case 30: return x.line(0, 6);
            case 31: return x.check();
            default: return x.status();
        }
    }

    private static void homeLeavesIt() {
        DUE.says("Promise 35", "What the latest call of those that may be REFUSED was REFUSED by",
            "home() is none of those");
        IceTrade x = new IceTrade();
        x.home();
        DUE.due("ahead of any", x.status(), 0);
        x.way(3, 21);
        x.home();
        DUE.due("behind a refused one, without stretches", x.status(), -1);
        x.way(3, 2);
        x.lay(0, 0, 0);
        x.home();
        DUE.due("behind a refused one, with a stretch", x.status(), -2);
    }

    /** All that asking calls tell of the furnished object. */
    private static int[] all(IceTrade x) {
        int[] a = new int[200];
        int n = 0;
        for (int what = 0; what <= 15; what++) {
            a[n++] = x.count(what);
        }
        for (int room = 0; room < 4; room++) {
            for (int what = 0; what <= 11; what++) {
                a[n++] = x.rooms(room, what);
            }
            for (int place = 0; place < 6; place++) {
                a[n++] = x.place(room, place);
            }
            a[n++] = x.next(room);
            a[n++] = x.foretold(room, 3);
        }
        for (int block = 0; block < 4; block++) {
            for (int what = 0; what <= 9; what++) {
                a[n++] = x.block(block, what);
            }
        }
        for (int i = 0; i < 18; i++) {
            a[n++] = x.line(i / 6, i % 6);
        }
        for (int i = 0; i < 4; i++) {
            a[n++] = x.foretold(-1, i);
            a[n++] = x.sent(i);
            a[n++] = x.list(i);
            a[n++] = x.tenths(i);
        }
        a[n++] = x.tenths(199);
        a[n++] = x.comes(0, 2);
        a[n++] = x.last();
        a[n] = x.check();
        return a;
    }

    private static void leaves(IceTrade x, String call, int due, ToIntFunction<IceTrade> refused) {
        int[] before = all(x);
        DUE.told(x, call, refused.applyAsInt(x), due);
        int[] behind = all(x);
        for (int i = 0; i < before.length; i++) {
            DUE.due("answer " + i + " behind " + call, behind[i], before[i]);
        }
    }

    private static void leaves(String call, int due, ToIntFunction<IceTrade> refused) {
        leaves(furnished(), call, due, refused);
    }

    private static void nothingIsChanged() {
        DUE.says("REFUSED", "What is REFUSED changes nothing but status()");
        leaves("room -1", -1, x -> x.room(2, 1, 1, 1, 3));
        leaves("lay -1", -1, x -> x.lay(1, 2, 0));
        leaves("lay -2", -2, x -> x.lay(3, 0, 0));
        leaves("lay -7", -7, x -> x.lay(1, 0, 0));
        leaves("tear -1", -1, x -> x.tear(1, 0, 1));
        leaves("tear -2", -2, x -> x.tear(3, 0, 0));
        leaves("tear -3", -3, x -> x.tear(1, 1, 0));
        leaves("tear -7", -7, x -> x.tear(0, 0, 0));
        leaves("cut -1", -1, x -> x.cut(1, 0, 3, 5000));
        leaves("cut -1", -1, x -> x.cut(1, 2, 0, 5000));
        leaves("cut -2", -2, x -> x.cut(3, 0, 0, 5000));
        leaves("cut -3", -3, x -> x.cut(1, 1, 0, 5000));
        leaves("cut -4", -4, x -> x.cut(0, 1, 0, 5000));
        leaves("cut -5", -5, x -> x.cut(0, 5, 0, 5000));
        leaves("put -1", -1, x -> x.put(1, 0, 2));
        leaves("put -2", -2, x -> x.put(3, 0, 0));
        leaves("put -3", -3, x -> x.put(1, 1, 0));
        leaves("put -4", -4, x -> x.put(0, 1, 1));
        leaves("put -5", -5, x -> x.put(0, 5, 1));
        leaves("put -7", -7, x -> x.put(2, 0, 0));
        leaves("clear -1", -1, x -> x.clear(0, 6));
        leaves("clear -2", -2, x -> x.clear(3, 0));
        leaves("clear -3", -3, x -> x.clear(1, 1));
        leaves("clear -7", -7, x -> x.clear(0, 0));
        leaves("warm -1", -1, x -> x.warm(200, 0));
        leaves("warm -1", -1, x -> Due.warm(x, 1, 60.1f));
        leaves("terms -1", -1, x -> x.terms(0, 0, 0));
        leaves("take -1", -1, x -> x.take(0, 0));
        leaves("take -2", -2, x -> x.take(3, 1));
        leaves("take -6", -6, x -> x.take(0, 3));
        leaves("way -1", -1, x -> x.way(4, 21));
        leaves("send -1", -1, x -> x.send(0, 0));
        leaves("send -2", -2, x -> x.send(3, 1));
        leaves("price -1", -1, x -> x.price(0, 5001));
        leaves("foretell -1", -1, x -> x.foretell(1, 200));
        leaves("heap -1", -1, x -> x.heap(0, 999));
        leaves("pack -2", -2, x -> x.pack(3));
        leaves("pack -7", -7, x -> x.pack(0));
        leaves("image -1", -1, x -> x.image(4));
        leaves("back -1", -1, x -> x.back(4));
        leaves("back -2", -2, x -> x.back(1));
        leaves("alter -1", -1, x -> x.alter(0, 6, 1));
        leaves("alter -1", -1, x -> x.alter(0, 0, 0));
        leaves("alter -2", -2, x -> x.alter(9, 0, 1));
        IceTrade full = furnished();
        for (int i = 0; i < 8; i++) {
            full.room(0, 1, 1, 1, -1);
        }
        leaves(full, "room -6", -6, x -> x.room(0, 1, 1, 1, -1));
        full = furnished();
        for (int i = 0; i < 6; i++) {
            full.way(3, 0);
        }
        leaves(full, "way -6", -6, x -> x.way(3, 20));
        full = furnished();
        for (int i = 0; i < 30; i++) {
            full.heap(2, 9000);
        }
        leaves(full, "heap -6", -6, x -> x.heap(2, 9000));
        full = furnished();
        full.heap(2, 9000);
        leaves(full, "pack -6", -6, x -> x.pack(2));
    }

    private static void roomIsLookedAtFirst() {
        DUE.says("REFUSED", "(a PLACE, layer, row is looked at where there is the ROOM alone)");
        IceTrade x = new IceTrade();
        DUE.told(x, "lay", x.lay(0, -1, -1), -2);
        DUE.told(x, "tear", x.tear(0, 9, 9), -2);
        DUE.told(x, "cut", x.cut(0, -1, 0, 1000), -2);
        DUE.told(x, "put", x.put(0, 999, 0), -2);
        DUE.told(x, "clear", x.clear(0, -1), -2);
        DUE.due("place", x.place(0, -1), -2);
        x.room(0, 1, 1, 1, -1);
        DUE.told(x, "lay", x.lay(0, -1, -1), -1);
        DUE.told(x, "tear", x.tear(0, 9, 9), -1);
        DUE.told(x, "cut", x.cut(0, -1, 0, 1000), -1);
        DUE.told(x, "put", x.put(0, 999, 0), -1);
        DUE.told(x, "clear", x.clear(0, -1), -1);
        DUE.due("place", x.place(0, -1), -1);
    }

    private static void whatOfNoRoom() {
        DUE.says("REFUSED", "The first of these in that order", "-1 ahead of -2");
        IceTrade x = new IceTrade();
        DUE.told(x, "cut of no kind in no room", x.cut(0, 0, 3, 1000), -1);
        DUE.told(x, "cut without weight in no room", x.cut(0, 0, 0, 999), -1);
        DUE.told(x, "put of another what in no room", x.put(0, 0, 2), -1);
        DUE.told(x, "take of none from no room", x.take(0, 0), -1);
        DUE.told(x, "send of nothing from no room", x.send(0, 0), -1);
        DUE.told(x, "alter by no bits in no line", x.alter(0, 0, 0), -1);
        DUE.due("rooms of another what of no room", x.rooms(0, 12), -1);
        DUE.due("block of another what of no block", x.block(0, 10), -1);
        DUE.due("comes of too many from no room", x.comes(0, 301), -1);
        DUE.due("line of another what of no line", x.line(0, 6), -1);
    }
}
