/** The edges that term IV names of FREE ones and of taking, and promises 16, 17 and 23, each with its sentence. */
public final class EdgesOfTakingTest {
    private static final int[] WILD = {Integer.MIN_VALUE, Integer.MAX_VALUE};
    private static final Due DUE = new Due();

    public static void main(String[] args) {
        noBlockRightAbove();
        theGreatestLoss();
        thenTheHighestLayer();
        thenTheLowestPlace();
        asAllLiesThen();
        nextWithoutFreeOnes();
        nextOfNoRoom();
        howManyToTake();
        takeFromNoRoom();
        notSoMany();
        allOfThem();
        theOrderOfTake();
        lists();
        listsOfRefusedOnes();
        DUE.end();
    }

    private static IceTrade withRoom(int width, int rows, int layers, float degrees) {
        IceTrade x = new IceTrade();
        Due.laidRoom(x, 0, width, rows, layers);
        Due.warm(x, 0, degrees);
        return x;
    }

    private static void noBlockRightAbove() {
        DUE.says("IV", "FREE of a ROOM are its BLOCKS above which no BLOCK lies right away");
        IceTrade x = withRoom(4, 1, 3, -60f);
        x.cut(0, 0, 0, 5000);
        DUE.due("nothing above", x.block(0, 9), 1);
        x.cut(0, 4, 0, 1000);
        DUE.due("a block above", x.block(0, 9), 0);
        DUE.due("the one above, of three layers", x.block(1, 9), 1);
        x.cut(0, 8, 0, 5000);
        DUE.due("the one in the middle", x.block(1, 9), 0);
        DUE.due("the one in the top layer", x.block(2, 9), 1);
        x.cut(0, 1, 0, 5000);
        x.put(0, 5, 0);
        DUE.due("straw above", x.block(3, 9), 1);
        x.cut(0, 9, 0, 5000);
        DUE.due("straw above, and a block on it", x.block(3, 9), 1);
        x.cut(0, 2, 0, 5000);
        x.put(0, 6, 1);
        DUE.due("a drain above", x.block(5, 9), 1);
        DUE.due("free ones of the room", x.rooms(0, 11), 4);
        x.terms(40, 200, 1001);
        x.day();
        DUE.due("a block two above, with nothing between", x.block(0, 9), 1);
        DUE.due("free ones of the room", x.rooms(0, 11), 5);
    }

    private static void theGreatestLoss() {
        DUE.says("IV", "THE NEXT of a ROOM is that FREE one with the greatest LOSS of TODAY");
        IceTrade x = withRoom(6, 1, 2, 10f);
        x.cut(0, 0, 0, 1799);
        x.cut(0, 2, 0, 1800);
        x.cut(0, 4, 0, 1801);
        DUE.due("1800 each, one of 1799: the lowest of those alike", x.next(0), 1);
        x.cut(0, 6, 0, 1700);
        DUE.due("1700 in a higher layer is less", x.next(0), 1);
        x.cut(0, 8, 2, 1801);
        DUE.due("one that is not free is not", x.next(0), 4);
        IceTrade y = withRoom(3, 1, 2, 10f);
        y.cut(0, 0, 0, 50000);
        y.put(0, 2, 0);
        y.cut(0, 5, 0, 50000);
        Due.warm(y, 1, -10f);
        DUE.due("on day 0 the one on straw loses less", y.next(0), 0);
        y.day();
        DUE.due("nothing is lost on day 1, so the highest", y.next(0), 1);
    }

    private static void thenTheHighestLayer() {
        DUE.says("IV", "of those alike the one in the highest layer");
        IceTrade x = withRoom(3, 1, 3, -60f);
        x.cut(0, 0, 0, 5000);
        x.cut(0, 1, 0, 5000);
        x.cut(0, 4, 0, 5000);
        DUE.due("layer 1 ahead of a lower place in layer 0", x.next(0), 2);
        x.put(0, 2, 0);
        x.put(0, 5, 0);
        x.cut(0, 8, 0, 5000);
        DUE.due("layer 2", x.next(0), 3);
    }

    private static void thenTheLowestPlace() {
        DUE.says("IV", "then in the lowest PLACE");
        IceTrade x = withRoom(3, 2, 2, -60f);
        int[] places = {5, 3, 4, 0, 2, 1};
        for (int place : places) {
            x.cut(0, place, 0, 5000);
        }
        DUE.due("place 0, not block 0", x.next(0), 3);
        x.cut(0, 11, 0, 5000);
        x.cut(0, 10, 0, 5000);
        DUE.due("place 10 of the upper layer", x.next(0), 7);
    }

    private static void asAllLiesThen() {
        DUE.says("IV", "To TAKE n of them: n times THE NEXT, as all lies then");
        IceTrade x = withRoom(5, 1, 1, 10f);
        for (int place = 0; place < 5; place++) {
            x.cut(0, place, 0, 50000);
        }
        DUE.due("both ends lose the most", x.block(4, 8), x.block(0, 8));
        DUE.due("take(0, 5)", x.take(0, 5), 250000);
        for (int i = 0; i < 5; i++) {
            DUE.due("list(" + i + "): each lies bare as its neighbour is taken", x.list(i), i);
        }
        IceTrade y = withRoom(5, 1, 1, 0.2f);
        y.cut(0, 0, 2, 50000);
        y.put(0, 1, 0);
        y.cut(0, 2, 0, 50000);
        y.cut(0, 3, 0, 50000);
        DUE.due("while there is salt nothing is lost", y.block(2, 8), 0);
        y.take(0, 2);
        DUE.due("the lowest of those alike", y.list(0), 0);
        DUE.due("without it the one without straw", y.list(1), 2);
    }

    private static void nextWithoutFreeOnes() {
        DUE.says("Promise 16", "NONE without FREE ones");
        IceTrade x = withRoom(2, 1, 1, 10f);
        DUE.due("an empty room", x.next(0), -1);
        x.put(0, 0, 0);
        x.put(0, 1, 1);
        DUE.due("straw and a drain", x.next(0), -1);
        x.clear(0, 0);
        x.cut(0, 0, 0, 5000);
        DUE.due("one block", x.next(0), 0);
        x.take(0, 1);
        DUE.due("it is taken", x.next(0), -1);
        IceTrade y = new IceTrade();
        y.room(0, 1, 1, 1, -1);
        DUE.due("a room without rows", y.next(0), -1);
    }

    private static void nextOfNoRoom() {
        DUE.says("Promise 16", "NONE without FREE ones; -2", "-2");
        IceTrade x = withRoom(1, 1, 1, 10f);
        int[] none = {-1, 1, 8, WILD[0], WILD[1]};
        for (int room : none) {
            DUE.due("next(" + room + ")", x.next(room), -2);
        }
    }

    private static void howManyToTake() {
        DUE.says("Promise 17", "n BLOCKS (1 .. 300) are TAKEN and SOLD", "-1");
        IceTrade x = withRoom(2, 1, 1, 10f);
        x.cut(0, 0, 0, 5000);
        int[] bad = {0, -1, 301, WILD[0], WILD[1]};
        for (int n : bad) {
            DUE.told(x, "take(0, " + n + ")", x.take(0, n), -1);
        }
        DUE.told(x, "take(0, 300): it has not so many", x.take(0, 300), -6);
        DUE.told(x, "take(0, 1)", x.take(0, 1), 5000);
    }

    private static void takeFromNoRoom() {
        DUE.says("Promise 17", "-1; -2; -6: the ROOM has not so many", "-2");
        IceTrade x = withRoom(1, 1, 1, 10f);
        x.cut(0, 0, 0, 5000);
        int[] none = {-1, 1, 8, WILD[0], WILD[1]};
        for (int room : none) {
            DUE.told(x, "take(" + room + ", 1)", x.take(room, 1), -2);
        }
        DUE.due("it lies there", x.place(0, 0), 10);
    }

    private static void notSoMany() {
        DUE.says("Promise 17", "-6: the ROOM has not so many");
        IceTrade x = withRoom(2, 1, 2, 10f);
        Due.laidRoom(x, 0, 2, 1, 1);
        DUE.told(x, "none", x.take(0, 1), -6);
        x.cut(0, 0, 0, 5000);
        x.cut(0, 2, 0, 6000);
        x.cut(1, 0, 0, 7000);
        DUE.told(x, "two of two rooms' three", x.take(0, 3), -6);
        DUE.due("nothing is sold", x.count(3), 0);
        DUE.due("place(0, 0)", x.place(0, 0), 10);
        DUE.due("place(0, 2)", x.place(0, 2), 11);
        DUE.due("block(1, 2)", x.block(1, 2), 0);
        DUE.due("block(1, 3)", x.block(1, 3), 2);
        DUE.told(x, "one that is not free yet is had too", x.take(0, 2), 11000);
        DUE.told(x, "no more", x.take(0, 1), -6);
    }

    private static void allOfThem() {
        DUE.says("Promise 17", "n BLOCKS (1 .. 300) are TAKEN and SOLD: what they weigh", "a full ROOM");
        IceTrade x = withRoom(6, 6, 5, -60f);
        for (int place = 0; place < 180; place++) {
            x.cut(0, place, 0, 1000000);
        }
        DUE.told(x, "one more than there are", x.take(0, 181), -6);
        DUE.told(x, "all", x.take(0, 180), 180000000);
        DUE.due("sold", x.count(3), 180000000);
        DUE.due("the first of the top layer", x.list(0), 144);
        DUE.due("the last of the floor", x.list(179), 35);
        DUE.due("list(180)", x.list(180), -1);
        DUE.due("the room is empty", x.rooms(0, 6), 0);
    }

    private static void theOrderOfTake() {
        DUE.says("REFUSED", "The first of these in that order", "take");
        IceTrade x = withRoom(1, 1, 1, 10f);
        DUE.told(x, "-1 ahead of -2", x.take(1, 0), -1);
        DUE.told(x, "-1 ahead of -2", x.take(-1, 301), -1);
        DUE.told(x, "-1 ahead of -6", x.take(0, 301), -1);
        DUE.told(x, "-2 ahead of -6", x.take(1, 1), -2);
    }

    private static void lists() {
        DUE.says("Promise 23", "in the order in which they were TAKEN; NONE");
        IceTrade x = withRoom(4, 1, 1, -60f);
        DUE.due("list(0) ahead of any", x.list(0), -1);
        for (int i = 0; i < 4; i++) {
            x.cut(0, 3 - i, 0, 5000);
        }
        x.take(0, 3);
        int[] due = {3, 2, 1};
        for (int i = 0; i < 3; i++) {
            DUE.due("list(" + i + ")", x.list(i), due[i]);
        }
        int[] none = {-1, 3, 180, WILD[0], WILD[1]};
        for (int i : none) {
            DUE.due("list(" + i + ")", x.list(i), -1);
        }
        x.send(0, 1);
        DUE.due("of a shorter one, list(0)", x.list(0), 0);
        DUE.due("of a shorter one, list(1)", x.list(1), -1);
    }

    private static void listsOfRefusedOnes() {
        DUE.says("Promise 23", "BLOCK i of the latest take(), send() that was not REFUSED");
        IceTrade x = withRoom(4, 1, 1, -60f);
        for (int i = 0; i < 4; i++) {
            x.cut(0, i, 0, 5000);
        }
        x.take(0, 2);
        x.take(0, 0);
        x.take(1, 1);
        x.take(0, 3);
        x.send(0, 0);
        x.send(1, 1);
        x.send(0, 10001);
        x.comes(0, 2);
        DUE.due("count(15)", x.count(15), 2);
        DUE.due("list(0)", x.list(0), 0);
        DUE.due("list(1)", x.list(1), 1);
        DUE.due("list(2)", x.list(2), -1);
        x.send(0, 5000);
        DUE.due("list(0) of a send()", x.list(0), 2);
        DUE.due("count(15)", x.count(15), 1);
    }
}
