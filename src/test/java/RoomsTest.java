/** Promises 2 to 5: room, rooms, lay, tear. */
public final class RoomsTest {
    private static final Due DUE = new Due();

    public static void main(String[] args) {
        roomsAreNumbered();
        roomIsRefused();
        whatRoomsTells();
        rowsAreLaid();
        rowsAreTorn();
        DUE.end();
    }

    private static void roomsAreNumbered() {
        IceTrade x = new IceTrade();
        DUE.due("the least room", x.room(0, 1, 1, 1, -1), 0);
        DUE.due("the greatest room", x.room(5, 6, 6, 5, -1), 1);
        DUE.due("an inner one", x.room(2, 2, 2, 2, 1), 2);
        DUE.due("an inner one in an inner one", x.room(2, 2, 2, 2, 2), 3);
        for (int n = 4; n < 8; n++) {
            DUE.due("room " + n, x.room(n % 2, 1, 1, 1, -1), n);
        }
        DUE.due("a ninth", x.room(0, 1, 1, 1, -1), -6);
        DUE.due("a ninth that can't be", x.room(0, 0, 1, 1, -1), -1);
        DUE.due("count(10)", x.count(10), 8);
    }

    private static void roomIsRefused() {
        IceTrade x = new IceTrade();
        int[][] bad = {{-1, 1, 1, 1, -1}, {6, 1, 1, 1, -1}, {0, 0, 1, 1, -1}, {0, 7, 1, 1, -1}, {0, 1, 0, 1, -1},
            {0, 1, 7, 1, -1}, {0, 1, 1, 0, -1}, {0, 1, 1, 6, -1}, {0, 1, 1, 1, 0}, {0, 1, 1, 1, -2}, {2, 1, 1, 1, -1},
            {2, 1, 1, 1, 0}, {1, Integer.MIN_VALUE, 1, 1, -1}, {1, 1, 1, Integer.MAX_VALUE, -1}};
        for (int[] b : bad) {
            DUE.due("room" + java.util.Arrays.toString(b), x.room(b[0], b[1], b[2], b[3], b[4]), -1);
        }
        DUE.due("count(10)", x.count(10), 0);
        x.room(0, 1, 1, 1, -1);
        DUE.due("an inner one in itself", x.room(2, 1, 1, 1, 1), -1);
        DUE.due("a room in another", x.room(0, 1, 1, 1, 0), -1);
        DUE.due("an inner one", x.room(2, 1, 1, 1, 0), 1);
    }

    private static void whatRoomsTells() {
        IceTrade x = new IceTrade();
        Due.warm(x, 0, 10f);
        Due.laidRoom(x, 0, 3, 2, 2);
        x.room(2, 1, 2, 3, 0);
        x.cut(0, 0, 0, 5000);
        x.cut(0, 1, 2, 6000);
        x.cut(0, 6, 0, 7000);
        x.put(0, 7, 0);
        int[] due = {0, 3, 2, 2, -1, 98, 3, 18000, 0, 0, 4 + 4 + 4, 2};
        for (int what = 0; what < due.length; what++) {
            DUE.due("rooms(0, " + what + ")", x.rooms(0, what), due[what]);
        }
        int[] inner = {2, 1, 2, 3, 0, 98, 0, 0, 0, 0, 0, 0};
        for (int what = 0; what < inner.length; what++) {
            DUE.due("rooms(1, " + what + ")", x.rooms(1, what), inner[what]);
        }
        DUE.due("rooms(0, 12)", x.rooms(0, 12), -1);
        DUE.due("rooms(0, -1)", x.rooms(0, -1), -1);
        DUE.due("rooms(2, 0)", x.rooms(2, 0), -2);
        DUE.due("rooms(-1, 0)", x.rooms(-1, 0), -2);
        DUE.due("rooms(9, 12): -1 is first", x.rooms(9, 12), -1);
    }

    private static void rowsAreLaid() {
        IceTrade x = new IceTrade();
        x.room(0, 2, 3, 2, -1);
        DUE.due("lay(1, 0, 0)", x.lay(1, 0, 0), -2);
        DUE.due("lay(-1, 0, 0)", x.lay(-1, 0, 0), -2);
        DUE.due("lay(1, 9, 9): no room to look in", x.lay(1, 9, 9), -2);
        DUE.due("lay(0, 2, 0)", x.lay(0, 2, 0), -1);
        DUE.due("lay(0, -1, 0)", x.lay(0, -1, 0), -1);
        DUE.due("lay(0, 0, 3)", x.lay(0, 0, 3), -1);
        DUE.due("lay(0, 0, -1)", x.lay(0, 0, -1), -1);
        DUE.due("lay(0, 1, 2) on none", x.lay(0, 1, 2), -7);
        DUE.due("place(0, 4)", x.place(0, 4), -3);
        DUE.due("lay(0, 0, 2)", x.lay(0, 0, 2), 0);
        DUE.due("place(0, 4)", x.place(0, 4), 0);
        DUE.due("place(0, 5)", x.place(0, 5), 0);
        DUE.due("place(0, 3)", x.place(0, 3), -3);
        DUE.due("lay(0, 0, 2) again", x.lay(0, 0, 2), -7);
        DUE.due("lay(0, 1, 1): not that one beneath", x.lay(0, 1, 1), -7);
        DUE.due("lay(0, 1, 2)", x.lay(0, 1, 2), 0);
        DUE.due("place(0, 10)", x.place(0, 10), 0);
        DUE.due("place(0, 9)", x.place(0, 9), -3);
    }

    private static void rowsAreTorn() {
        IceTrade x = new IceTrade();
        x.room(0, 2, 2, 3, -1);
        DUE.due("tear(1, 0, 0)", x.tear(1, 0, 0), -2);
        DUE.due("tear(1, 9, 0)", x.tear(1, 9, 0), -2);
        DUE.due("tear(0, 3, 0)", x.tear(0, 3, 0), -1);
        DUE.due("tear(0, 0, 2)", x.tear(0, 0, 2), -1);
        DUE.due("tear(0, 0, 0)", x.tear(0, 0, 0), -3);
        Due.layAll(x, 0);
        DUE.due("tear(0, 1, 1) beneath another", x.tear(0, 1, 1), -7);
        DUE.due("tear(0, 2, 1), the top", x.tear(0, 2, 1), 0);
        DUE.due("tear(0, 2, 1) again", x.tear(0, 2, 1), -3);
        DUE.due("tear(0, 1, 1)", x.tear(0, 1, 1), 0);
        x.put(0, 3, 1);
        DUE.due("tear(0, 0, 1) with a drain", x.tear(0, 0, 1), -7);
        x.clear(0, 3);
        x.put(0, 2, 0);
        DUE.due("tear(0, 0, 1) with straw", x.tear(0, 0, 1), -7);
        x.clear(0, 2);
        x.cut(0, 2, 0, 1000);
        DUE.due("tear(0, 0, 1) with a block", x.tear(0, 0, 1), -7);
        x.take(0, 1);
        DUE.due("tear(0, 0, 1)", x.tear(0, 0, 1), 0);
        DUE.due("the other row is still laid", x.place(0, 8), 0);
    }
}
