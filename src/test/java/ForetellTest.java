/** Promises 25 to 27: foretell, foretold, last. */
public final class ForetellTest {
    private static final Due DUE = new Due();

    public static void main(String[] args) {
        asTheDaysThenGo();
        byEarlierDays();
        allIsAsItWas();
        howManyDays();
        whenNothingIsLeft();
        roomsThatThereWereThen();
        eightRooms();
        DUE.end();
    }

    private static IceTrade furnished() {
        IceTrade x = new IceTrade();
        Due.warm(x, 0, 3f);
        Due.warm(x, 2, 12f);
        Due.warm(x, 3, -4f);
        Due.warm(x, 5, 25f);
        Due.laidRoom(x, 0, 3, 2, 2);
        Due.laidRoom(x, 5, 2, 2, 2);
        x.cut(0, 0, 0, 9000);
        x.cut(0, 1, 1, 20000);
        x.cut(0, 2, 2, 8000);
        x.cut(0, 6, 0, 7000);
        x.put(0, 3, 0);
        x.cut(1, 0, 1, 30000);
        x.cut(1, 1, 0, 4000);
        x.put(1, 2, 0);
        return x;
    }

    private static void asTheDaysThenGo() {
        IceTrade x = furnished();
        DUE.due("foretell(12, 0)", x.foretell(12, 0), 12);
        for (int i = 0; i <= 12; i++) {
            DUE.due("all behind day " + i, x.foretold(-1, i), x.count(2));
            DUE.due("room 0 behind day " + i, x.foretold(0, i), x.rooms(0, 7));
            DUE.due("room 1 behind day " + i, x.foretold(1, i), x.rooms(1, 7));
            x.day();
        }
        DUE.due("room 2", x.foretold(2, 0), -1);
        DUE.due("room -2", x.foretold(-2, 0), -1);
        DUE.due("day 13", x.foretold(-1, 13), -1);
        DUE.due("day -1", x.foretold(-1, -1), -1);
    }

    private static void byEarlierDays() {
        IceTrade x = new IceTrade();
        Due.warm(x, 0, 1f);
        Due.warm(x, 1, 2f);
        Due.warm(x, 2, 3f);
        Due.warm(x, 3, 4f);
        Due.laidRoom(x, 0, 1, 1, 1);
        x.cut(0, 0, 0, 100000);
        x.day();
        int now = 100000 - 180;
        int[][] tenthsByBack = {{20, 30, 40, 40}, {10, 20, 30, 40}, {10, 10, 20, 30}, {10, 10, 10, 20}};
        for (int back = 0; back < 4; back++) {
            DUE.due("foretell(4, " + back + ")", x.foretell(4, back), 4);
            int left = now;
            DUE.due("ahead of the first", x.foretold(0, 0), left);
            for (int i = 0; i < 4; i++) {
                left -= 18 * tenthsByBack[back][i];
                DUE.due("back " + back + ", day " + i, x.foretold(0, i + 1), left);
            }
        }
        x.foretell(3, 199);
        DUE.due("all as day 0", x.foretold(0, 3), now - 3 * 180);
    }

    private static void allIsAsItWas() {
        IceTrade x = furnished();
        IceTrade y = furnished();
        x.day();
        y.day();
        x.foretell(150, 1);
        for (int what = 0; what <= 15; what++) {
            DUE.due("count(" + what + ")", x.count(what), y.count(what));
        }
        for (int b = 0; b < 6; b++) {
            for (int what = 0; what <= 9; what++) {
                DUE.due("block(" + b + ", " + what + ")", x.block(b, what), y.block(b, what));
            }
        }
        for (int what = 0; what <= 11; what++) {
            DUE.due("rooms(1, " + what + ")", x.rooms(1, what), y.rooms(1, what));
        }
        for (int i = 0; i < 6; i++) {
            DUE.due("line(" + i + ", 5)", x.line(i, 5), y.line(i, 5));
        }
        DUE.due("check()", x.check(), -1);
        DUE.due("day()", x.day(), y.day());
    }

    private static void howManyDays() {
        IceTrade x = furnished();
        DUE.due("foretell(0, 0)", x.foretell(0, 0), -1);
        DUE.due("foretell(201, 0)", x.foretell(201, 0), -1);
        DUE.due("foretell(1, -1)", x.foretell(1, -1), -1);
        DUE.due("foretell(1, 200)", x.foretell(1, 200), -1);
        DUE.due("nothing is foretold", x.foretold(-1, 0), -1);
        DUE.due("last()", x.last(), -1);
        DUE.due("no more than day() would", x.foretell(200, 0), 199);
        DUE.due("foretold(-1, 199)", x.foretold(-1, 199), 0);
        DUE.due("foretold(-1, 200)", x.foretold(-1, 200), -1);
        for (int d = 0; d < 197; d++) {
            x.day();
        }
        DUE.due("foretell(5, 3)", x.foretell(5, 3), 2);
        DUE.due("foretell(1, 3)", x.foretell(1, 3), 1);
        x.day();
        x.day();
        DUE.due("foretell(5, 0) on day 199", x.foretell(5, 0), 0);
        DUE.due("foretold(-1, 0)", x.foretold(-1, 0), 0);
        DUE.due("foretold(-1, 1)", x.foretold(-1, 1), -1);
        DUE.due("last()", x.last(), 198);
    }

    private static void whenNothingIsLeft() {
        IceTrade x = new IceTrade();
        Due.warm(x, 0, 10f);
        Due.laidRoom(x, 0, 1, 1, 1);
        DUE.due("foretell", x.foretell(3, 0), 3);
        DUE.due("none at first", x.last(), -1);
        x.day();
        x.day();
        x.foretell(3, 0);
        DUE.due("none at first, on day 2", x.last(), 1);
        x.cut(0, 0, 0, 5000);
        x.foretell(2, 0);
        DUE.due("some at its end", x.last(), -2);
        x.foretell(3, 0);
        // 5000, 3200, 1400, and then none
        DUE.due("on day 4", x.last(), 4);
        x.foretell(9, 0);
        DUE.due("the first such day", x.last(), 4);
        x.foretell(999, 0);
        DUE.due("what is refused changes nothing", x.last(), 4);
        x.take(0, 1);
        DUE.due("the latest foretell()", x.last(), 4);
    }

    private static void eightRooms() {
        IceTrade x = new IceTrade();
        for (int r = 0; r < 8; r++) {
            Due.laidRoom(x, 0, 1, 1, 1);
            x.cut(r, 0, 0, 10000 + r);
        }
        Due.warm(x, 0, 1f);
        x.foretell(3, 0);
        for (int i = 0; i <= 3; i++) {
            DUE.due("all", x.foretold(-1, i), 80028 - 8 * 180 * i);
            for (int r = 0; r < 8; r++) {
                DUE.due("room " + r, x.foretold(r, i), 10000 + r - 180 * i);
            }
            DUE.due("room 8", x.foretold(8, i), -1);
        }
    }

    private static void roomsThatThereWereThen() {
        IceTrade x = new IceTrade();
        x.image(0);
        Due.laidRoom(x, 0, 1, 1, 1);
        x.cut(0, 0, 0, 5000);
        x.foretell(2, 0);
        x.room(0, 1, 1, 1, -1);
        DUE.due("not those since", x.foretold(1, 0), -1);
        x.back(0);
        DUE.due("those then", x.foretold(0, 2), 5000);
        DUE.due("count(10)", x.count(10), 0);
    }
}
