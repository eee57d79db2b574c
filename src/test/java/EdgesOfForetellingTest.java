/** The edges that term V names of days FORETOLD, and promises 25 to 27, each with its sentence. */
public final class EdgesOfForetellingTest {
    private static final int[] WILD = {Integer.MIN_VALUE, Integer.MAX_VALUE};
    private static final Due DUE = new Due();

    public static void main(String[] args) {
        howManyDays();
        howFarBack();
        noMoreThanDayWould();
        onTheLastDay();
        ofItself();
        soManyBefore();
        ofDayNought();
        oneBehindTheOther();
        allIsAsItWas();
        refusedOnesForetellNothing();
        aheadOfTheFirst();
        daysThatAreNone();
        allRooms();
        theEighthRoom();
        roomsThatAreNone();
        roomsThatThereWereThen();
        foretoldAheadOfAny();
        lastAheadOfAny();
        noneAtFirst();
        someAtItsEnd();
        theFirstDay();
        lastOfTheLatest();
        DUE.end();
    }

    /** A plain block alone in a room: it loses 18 grams for each tenth. */
    private static IceTrade withBlock(int grams) {
        IceTrade x = new IceTrade();
        Due.laidRoom(x, 0, 1, 1, 1);
        x.cut(0, 0, 0, grams);
        return x;
    }

    private static void howManyDays() {
        DUE.says("Promise 25", "DAYS (1 .. 200) are FORETOLD by BACK (0 .. 199): how many were. -1", "DAYS");
        IceTrade x = withBlock(5000);
        int[] bad = {0, -1, 201, WILD[0], WILD[1]};
        for (int days : bad) {
            DUE.told(x, "foretell(" + days + ", 0)", x.foretell(days, 0), -1);
        }
        DUE.told(x, "foretell(1, 0)", x.foretell(1, 0), 1);
        DUE.told(x, "foretell(199, 0)", x.foretell(199, 0), 199);
        DUE.told(x, "foretell(200, 0)", x.foretell(200, 0), 199);
    }

    private static void howFarBack() {
        DUE.says("Promise 25", "DAYS (1 .. 200) are FORETOLD by BACK (0 .. 199): how many were. -1", "BACK");
        IceTrade x = withBlock(5000);
        int[] bad = {-1, 200, WILD[0], WILD[1]};
        for (int back : bad) {
            DUE.told(x, "foretell(1, " + back + ")", x.foretell(1, back), -1);
        }
        DUE.told(x, "foretell(1, 0)", x.foretell(1, 0), 1);
        DUE.told(x, "foretell(1, 199)", x.foretell(1, 199), 1);
    }

    private static void noMoreThanDayWould() {
        DUE.says("V", "(no more than day() would)", "the last ones");
        IceTrade x = withBlock(5000);
        Due.days(x, 196);
        DUE.told(x, "two of three", x.foretell(2, 0), 2);
        DUE.told(x, "three of three", x.foretell(3, 0), 3);
        DUE.told(x, "four of three", x.foretell(4, 0), 3);
        DUE.told(x, "200 of three", x.foretell(200, 0), 3);
        DUE.due("behind the last", x.foretold(0, 3), 5000);
        DUE.due("no day more", x.foretold(0, 4), -1);
    }

    private static void onTheLastDay() {
        DUE.says("V", "(no more than day() would)", "TODAY is 199");
        IceTrade x = withBlock(5000);
        Due.days(x, 199);
        DUE.told(x, "foretell(1, 0)", x.foretell(1, 0), 0);
        DUE.due("foretold(0, 0)", x.foretold(0, 0), 5000);
        DUE.due("foretold(-1, 0)", x.foretold(-1, 0), 5000);
        DUE.due("foretold(0, 1)", x.foretold(0, 1), -1);
        DUE.due("last(): some were at its end", x.last(), -2);
        x.take(0, 1);
        x.foretell(200, 199);
        DUE.due("last(): none at first", x.last(), 198);
    }

    private static void ofItself() {
        DUE.says("V", "BACK 0: of itself");
        IceTrade x = withBlock(50000);
        for (int day = 0; day < 4; day++) {
            Due.warm(x, day, 1 + day);
        }
        x.day();
        x.foretell(3, 0);
        DUE.due("day 1", x.foretold(0, 1), 50000 - 18 * (10 + 20));
        DUE.due("day 2", x.foretold(0, 2), 50000 - 18 * (10 + 20 + 30));
        DUE.due("day 3", x.foretold(0, 3), 50000 - 18 * (10 + 20 + 30 + 40));
    }

    private static void soManyBefore() {
        DUE.says("V", "by OUTSIDE of the day so many (BACK) before each");
        IceTrade x = withBlock(50000);
        for (int day = 0; day < 5; day++) {
            Due.warm(x, day, 1 + day);
        }
        Due.days(x, 2);
        int now = 50000 - 18 * (10 + 20);
        x.foretell(3, 1);
        DUE.due("days 1, 2, 3 by BACK 1", x.foretold(0, 3), now - 18 * (20 + 30 + 40));
        x.foretell(3, 2);
        DUE.due("days 0, 1, 2 by BACK 2", x.foretold(0, 3), now - 18 * (10 + 20 + 30));
    }

    private static void ofDayNought() {
        DUE.says("V", "of day 0 if there is none");
        IceTrade x = withBlock(50000);
        for (int day = 0; day < 5; day++) {
            Due.warm(x, day, 1 + day);
        }
        Due.days(x, 2);
        int now = 50000 - 18 * (10 + 20);
        x.foretell(3, 3);
        DUE.due("days 0, 0, 1 by BACK 3", x.foretold(0, 3), now - 18 * (10 + 10 + 20));
        x.foretell(3, 199);
        DUE.due("day 0 each by BACK 199", x.foretold(0, 3), now - 18 * 30);
        IceTrade y = withBlock(1000000);
        Due.warm(y, 0, 1f);
        Due.warm(y, 1, 2f);
        DUE.due("foretell(199, 198)", y.foretell(199, 198), 199);
        DUE.due("198 has day 0 before it", y.foretold(0, 199), 1000000 - 18 * 10 * 199);
        DUE.due("foretell(199, 197)", y.foretell(199, 197), 199);
        DUE.due("198 has day 1 before it", y.foretold(0, 199), 1000000 - 18 * (10 * 198 + 20));
    }

    private static void oneBehindTheOther() {
        DUE.says("V", "as III has it, one behind the other");
        IceTrade x = new IceTrade();
        Due.laidRoom(x, 5, 2, 1, 2);
        Due.warm(x, 0, 2f);
        x.cut(0, 0, 0, 3000);
        x.cut(0, 2, 2, 50000);
        x.put(0, 1, 0);
        x.cut(0, 3, 1, 50000);
        IceTrade y = new IceTrade();
        Due.laidRoom(y, 5, 2, 1, 2);
        Due.warm(y, 0, 2f);
        y.cut(0, 0, 0, 3000);
        y.cut(0, 2, 2, 50000);
        y.put(0, 1, 0);
        y.cut(0, 3, 1, 50000);
        x.foretell(9, 0);
        for (int i = 0; i <= 9; i++) {
            DUE.due("behind day " + i, x.foretold(0, i), y.count(2));
            y.day();
        }
        DUE.due("the least one went on the way", y.block(0, 2), -1);
    }

    private static void allIsAsItWas() {
        DUE.says("V", "all is then as it was");
        IceTrade x = new IceTrade();
        Due.laidRoom(x, 0, 2, 1, 1);
        Due.warm(x, 0, 10f);
        x.cut(0, 0, 1, 5000);
        x.day();
        x.cut(0, 1, 2, 50000);
        int[] before = all(x);
        x.foretell(200, 0);
        int[] behind = all(x);
        for (int i = 0; i < before.length; i++) {
            DUE.due("answer " + i, behind[i], before[i]);
        }
        DUE.due("it is not spoilt, though it would be", x.block(0, 5), -1);
        DUE.holds("all would be gone", x.last() > 1);
    }

    private static int[] all(IceTrade x) {
        int[] a = new int[16 + 12 + 20 + 2 + 12 + 2];
        int n = 0;
        for (int what = 0; what <= 15; what++) {
            a[n++] = x.count(what);
        }
        for (int what = 0; what <= 11; what++) {
            a[n++] = x.rooms(0, what);
        }
        for (int i = 0; i < 20; i++) {
            a[n++] = x.block(i / 10, i % 10);
        }
        a[n++] = x.place(0, 0);
        a[n++] = x.place(0, 1);
        for (int i = 0; i < 12; i++) {
            a[n++] = x.line(i / 6, i % 6);
        }
        a[n++] = x.next(0);
        a[n] = x.check();
        return a;
    }

    private static void refusedOnesForetellNothing() {
        DUE.says("REFUSED", "What is REFUSED changes nothing but status()", "foretell");
        IceTrade x = withBlock(5000);
        x.foretell(2, 0);
        x.take(0, 1);
        x.foretell(0, 0);
        x.foretell(201, 0);
        x.foretell(1, -1);
        x.foretell(1, 200);
        DUE.due("foretold(0, 2)", x.foretold(0, 2), 5000);
        DUE.due("foretold(0, 3)", x.foretold(0, 3), -1);
        DUE.due("last()", x.last(), -2);
    }

    private static void aheadOfTheFirst() {
        DUE.says("Promise 26", "what a ROOM holds behind day i of it (0 ahead of the first one), in grams");
        IceTrade x = withBlock(5000);
        Due.warm(x, 0, 1f);
        x.foretell(2, 0);
        DUE.due("foretold(0, 0)", x.foretold(0, 0), 5000);
        DUE.due("foretold(0, 1)", x.foretold(0, 1), 4820);
        DUE.due("foretold(0, 2)", x.foretold(0, 2), 4640);
        x.take(0, 1);
        x.foretell(2, 0);
        DUE.due("an empty room", x.foretold(0, 0), 0);
        DUE.due("an empty room", x.foretold(0, 2), 0);
    }

    private static void daysThatAreNone() {
        DUE.says("Promise 26", "-1 if there is none such", "days");
        IceTrade x = withBlock(5000);
        x.foretell(9, 0);
        x.foretell(3, 0);
        int[] none = {-1, 4, 9, 200, WILD[0], WILD[1]};
        for (int i : none) {
            DUE.due("foretold(0, " + i + ")", x.foretold(0, i), -1);
            DUE.due("foretold(-1, " + i + ")", x.foretold(-1, i), -1);
        }
        DUE.due("foretold(0, 3)", x.foretold(0, 3), 5000);
        x.foretell(200, 0);
        DUE.due("foretold(0, 199)", x.foretold(0, 199), 5000);
        DUE.due("foretold(0, 200)", x.foretold(0, 200), -1);
    }

    private static void allRooms() {
        DUE.says("Promise 26", "of room -1 all");
        IceTrade x = new IceTrade();
        x.foretell(1, 0);
        DUE.due("without any room", x.foretold(-1, 0), 0);
        DUE.due("without any room", x.foretold(-1, 1), 0);
        for (int room = 0; room < 8; room++) {
            Due.laidRoom(x, 0, 1, 1, 1);
            x.cut(room, 0, 0, 1000000);
        }
        Due.warm(x, 1, 1f);
        x.foretell(2, 0);
        DUE.due("ahead of the first", x.foretold(-1, 0), 8000000);
        DUE.due("behind the first", x.foretold(-1, 1), 8000000);
        DUE.due("behind the second", x.foretold(-1, 2), 8 * (1000000 - 180));
        x.foretell(2, 0);
        DUE.due("foretold again", x.foretold(-1, 2), 8 * (1000000 - 180));
    }

    private static void theEighthRoom() {
        DUE.says("Promise 26", "what a ROOM holds behind day i of it", "each of 8 ROOMS");
        IceTrade x = new IceTrade();
        Due.warm(x, 0, 1f);
        for (int room = 0; room < 8; room++) {
            Due.laidRoom(x, 0, 1, 1, 1);
            x.cut(room, 0, 0, 100000 + room);
        }
        x.foretell(3, 0);
        for (int i = 0; i <= 3; i++) {
            for (int room = 0; room < 8; room++) {
                DUE.due("foretold(" + room + ", " + i + ")", x.foretold(room, i), 100000 + room - 180 * i);
            }
        }
    }

    private static void roomsThatAreNone() {
        DUE.says("Promise 26", "-1 if there is none such", "ROOMS");
        IceTrade x = withBlock(5000);
        x.foretell(1, 0);
        int[] none = {-2, 1, 8, WILD[0], WILD[1]};
        for (int room : none) {
            DUE.due("foretold(" + room + ", 0)", x.foretold(room, 0), -1);
            DUE.due("foretold(" + room + ", 1)", x.foretold(room, 1), -1);
        }
    }

    private static void roomsThatThereWereThen() {
        DUE.says("Promise 26", "(ROOMS that there were then)");
        IceTrade x = new IceTrade();
        x.image(0);
        Due.laidRoom(x, 0, 1, 1, 1);
        x.cut(0, 0, 0, 5000);
        x.foretell(1, 0);
        x.room(0, 1, 1, 1, -1);
        DUE.due("one that came since", x.foretold(1, 0), -1);
        x.back(0);
        DUE.due("one that is no more", x.foretold(0, 1), 5000);
        DUE.due("rooms(0, 0)", x.rooms(0, 0), -2);
        x.foretell(1, 0);
        DUE.due("none of the latest", x.foretold(0, 1), -1);
    }

    private static void foretoldAheadOfAny() {
        DUE.says("Promise 26", "-1 if there is none such", "ahead of any foretell()");
        IceTrade x = withBlock(5000);
        DUE.due("foretold(0, 0)", x.foretold(0, 0), -1);
        DUE.due("foretold(-1, 0)", x.foretold(-1, 0), -1);
        x.foretell(0, 0);
        DUE.due("foretold(-1, 0) behind a refused one", x.foretold(-1, 0), -1);
    }

    private static void lastAheadOfAny() {
        DUE.says("Promise 27", "-1 ahead of any");
        IceTrade x = withBlock(5000);
        Due.days(x, 5);
        DUE.due("last()", x.last(), -1);
        x.foretell(1, 200);
        DUE.due("last() behind a refused one", x.last(), -1);
    }

    private static void noneAtFirst() {
        DUE.says("Promise 27", "TODAY then, less 1, if there was none at first");
        IceTrade x = new IceTrade();
        x.foretell(5, 0);
        DUE.due("on day 0", x.last(), -1);
        x.day();
        x.foretell(5, 0);
        DUE.due("on day 1", x.last(), 0);
        Due.days(x, 198);
        DUE.due("as it was then", x.last(), 0);
        x.foretell(5, 0);
        DUE.due("on day 199", x.last(), 198);
    }

    private static void someAtItsEnd() {
        DUE.says("Promise 27", "-2 if some were at its end");
        IceTrade x = withBlock(1360);
        Due.laidRoom(x, 0, 1, 1, 1);
        x.cut(1, 0, 0, 1180);
        Due.warm(x, 0, 1f);
        x.foretell(1, 0);
        DUE.due("both behind day 0", x.last(), -2);
        x.foretell(2, 0);
        DUE.due("one behind day 1", x.last(), -2);
        x.foretell(3, 0);
        DUE.due("none behind day 2", x.last(), 2);
    }

    private static void theFirstDay() {
        DUE.says("Promise 27", "the first day at whose end no BLOCK was left (as a number 0 .. 199)");
        IceTrade x = withBlock(1179);
        Due.warm(x, 0, 1f);
        x.foretell(1, 0);
        DUE.due("on day 0", x.last(), 0);
        x.foretell(50, 0);
        DUE.due("on day 0, and none since", x.last(), 0);
        IceTrade y = withBlock(5000);
        Due.warm(y, 0, -60f);
        Due.warm(y, 198, 60f);
        y.foretell(200, 0);
        DUE.due("on day 198, the last that goes by", y.last(), 198);
        Due.days(y, 198);
        y.foretell(1, 0);
        DUE.due("foretold on day 198", y.last(), 198);
    }

    private static void lastOfTheLatest() {
        DUE.says("Promise 27", "In the latest foretell()");
        IceTrade x = withBlock(1179);
        Due.warm(x, 0, 1f);
        Due.warm(x, 1, -60f);
        x.foretell(1, 0);
        DUE.due("on day 0", x.last(), 0);
        x.cut(0, 0, 0, 5000);
        DUE.due("it is not asked anew", x.last(), 0);
        x.take(0, 1);
        x.cut(0, 0, 0, 5000);
        x.foretell(1, 0);
        DUE.due("some are left", x.last(), -2);
        Due.days(x, 3);
        DUE.due("it is not asked anew", x.last(), -2);
    }
}
