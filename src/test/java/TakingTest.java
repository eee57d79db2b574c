/** Promises 16, 17 and 23: next, take, list. */
public final class TakingTest {
    private static final Due DUE = new Due();

    public static void main(String[] args) {
        theGreatestLossIsNext();
        ofThoseAlike();
        takenAsAllLiesThen();
        takeIsRefused();
        whatListTells();
        DUE.end();
    }

    private static void theGreatestLossIsNext() {
        IceTrade x = new IceTrade();
        Due.warm(x, 0, 10f);
        Due.laidRoom(x, 0, 4, 1, 2);
        DUE.due("next(0) of none", x.next(0), -1);
        DUE.due("next(1)", x.next(1), -2);
        DUE.due("next(-1)", x.next(-1), -2);
        x.cut(0, 0, 0, 50000);
        x.cut(0, 1, 0, 50000);
        x.cut(0, 3, 0, 1200);
        DUE.due("five sides in air, but it weighs but 1200", x.next(0), 0);
        x.cut(0, 4, 0, 1100);
        DUE.due("what is not free is not next", x.next(0), 1);
        x.put(0, 5, 0);
        DUE.due("beneath straw it is free, but loses less", x.block(1, 8), 4 * 300 + 120);
        DUE.due("and still the most", x.next(0), 1);
        x.terms(0, 200, 1000);
        DUE.due("1200 each: the lowest place", x.next(0), 1);
        Due.warm(x, 0, -10f);
        DUE.due("all alike: the highest layer", x.next(0), 3);
    }

    private static void ofThoseAlike() {
        IceTrade x = new IceTrade();
        Due.laidRoom(x, 0, 3, 1, 3);
        x.cut(0, 2, 0, 5000);
        x.cut(0, 0, 0, 5000);
        x.cut(0, 1, 0, 5000);
        DUE.due("the lowest place, not the lowest number", x.next(0), 1);
        x.cut(0, 5, 0, 5000);
        x.cut(0, 4, 0, 5000);
        DUE.due("the highest layer, then the lowest place", x.next(0), 4);
        DUE.due("take(0, 5)", x.take(0, 5), 25000);
        int[] order = {4, 3, 1, 2, 0};
        for (int i = 0; i < 5; i++) {
            DUE.due("list(" + i + ")", x.list(i), order[i]);
        }
        DUE.due("list(5)", x.list(5), -1);
    }

    /** As a block is taken, those at its sides lose more; as salt is, all of them do. */
    private static void takenAsAllLiesThen() {
        IceTrade x = new IceTrade();
        Due.warm(x, 0, 10f);
        Due.laidRoom(x, 0, 5, 1, 1);
        x.cut(0, 0, 0, 50000);
        x.cut(0, 1, 0, 50000);
        x.cut(0, 2, 0, 50000);
        x.cut(0, 3, 0, 50000);
        x.cut(0, 4, 2, 50000);
        DUE.due("salt first, then 3 with five sides in air", x.take(0, 2), 100000);
        DUE.due("list(0)", x.list(0), 4);
        DUE.due("list(1)", x.list(1), 0);
        DUE.due("place(0, 4)", x.place(0, 4), 0);
        DUE.due("place(0, 0)", x.place(0, 0), 0);
        DUE.due("WARMTH without its salt", x.rooms(0, 5), 100);
        DUE.due("1 and 3 have five sides in air", x.take(0, 3), 150000);
        DUE.due("list(0)", x.list(0), 1);
        DUE.due("2 lies between", x.list(1), 2);
        DUE.due("list(2)", x.list(2), 3);
        DUE.due("sold", x.count(3), 250000);
        DUE.due("in rooms", x.count(9), 0);
    }

    private static void takeIsRefused() {
        IceTrade x = new IceTrade();
        Due.laidRoom(x, 0, 2, 1, 1);
        x.cut(0, 0, 0, 5000);
        x.cut(0, 1, 0, 6000);
        DUE.due("take(0, 0)", x.take(0, 0), -1);
        DUE.due("take(0, 301)", x.take(0, 301), -1);
        DUE.due("take(1, 301): -1 is first", x.take(1, 301), -1);
        DUE.due("take(1, 1)", x.take(1, 1), -2);
        DUE.due("take(0, 3)", x.take(0, 3), -6);
        DUE.due("take(0, 300)", x.take(0, 300), -6);
        DUE.due("nothing was taken", x.count(9), 2);
        DUE.due("place(0, 0)", x.place(0, 0), 10);
        DUE.due("take(0, 2)", x.take(0, 2), 11000);
        DUE.due("take(0, 1)", x.take(0, 1), -6);
    }

    private static void whatListTells() {
        IceTrade x = new IceTrade();
        Due.laidRoom(x, 0, 4, 1, 1);
        for (int i = 0; i < 4; i++) {
            x.cut(0, i, 0, 5000);
        }
        x.take(0, 2);
        DUE.due("count(15)", x.count(15), 2);
        x.take(0, 9);
        x.send(0, 1000000);
        DUE.due("refused ones leave it", x.count(15), 2);
        DUE.due("list(0)", x.list(0), 0);
        DUE.due("list(1)", x.list(1), 1);
        DUE.due("list(-1)", x.list(-1), -1);
        DUE.due("list(2)", x.list(2), -1);
        x.send(0, 1);
        DUE.due("count(15)", x.count(15), 1);
        DUE.due("list(0)", x.list(0), 2);
        DUE.due("list(1)", x.list(1), -1);
        x.image(0);
        x.take(0, 1);
        x.back(0);
        DUE.due("an image has no list", x.list(0), 3);
    }
}
