/** The edges that term III and promises 13 to 15 name, each with its sentence. */
public final class EdgesOfDaysTest {
    private static final int[] WILD = {Integer.MIN_VALUE, Integer.MAX_VALUE};
    private static final Due DUE = new Due();

    public static void main(String[] args) {
        sixSides();
        rowsDoNotWrapAround();
        layersDoNotWrapAround();
        inStraw();
        elseInAir();
        rowsThatAreNotLaid();
        rates();
        warmthAboveNought();
        strawIsCutForEachSide();
        wetInAPit();
        wetInLayerNought();
        wetWithoutADrain();
        wetInFrost();
        atMostWhatItWeighs();
        allByHowTheyLay();
        belowLeast();
        belowLeastWithoutLoss();
        whatIsLeftCounts();
        todayIsOneMore();
        ledBeneathInItsColumn();
        ledByLayerNought();
        elseItStands();
        spoiltBySalt();
        saltThatWrapsAround();
        spoiltByWater();
        onlyClearOnesAreSpoilt();
        parts();
        wets();
        leasts();
        termsThatAreRefused();
        howManyMelted();
        theLastDay();
        asTodayIs199();
        counts();
        countsOfAllRooms();
        otherCounts();
        DUE.end();
    }

    private static IceTrade withRoom(int kind, int width, int rows, int layers, float degrees) {
        IceTrade x = new IceTrade();
        Due.laidRoom(x, kind, width, rows, layers);
        Due.warm(x, 0, degrees);
        return x;
    }

    /** A room of three by three by three: block 0 lies in its middle, place 13, on straw in place 4. */
    private static IceTrade withMiddle(int kind, float degrees) {
        IceTrade x = withRoom(0, 3, 3, 3, degrees);
        x.put(0, 4, 0);
        x.cut(0, 13, kind, 50000);
        return x;
    }

    /** Puts block 1 into a place of that room, on straw where it needs it. */
    private static void addTo(IceTrade x, int place, int kind) {
        for (int beneath = place % 9; beneath < place; beneath += 9) {
            if (x.place(0, beneath) == 0) {
                x.put(0, beneath, 0);
            }
        }
        DUE.due("a block in place " + place, x.cut(0, place, kind, 50000), 1);
    }

    /** Whether a place is at a side of the middle one; the one beneath, place 4, has straw here. */
    private static boolean isBesideMiddle(int place) {
        return place == 12 || place == 14 || place == 10 || place == 16 || place == 22;
    }

    private static void sixSides() {
        DUE.says("III", "SIDES of a BLOCK, six: the PLACES left and right (x), before and behind (y), beneath and"
            + " above (z): shut where a BLOCK lies");
        for (int place = 0; place < 27; place++) {
            if (place != 13 && place != 4) {
                IceTrade x = withMiddle(0, 10f);
                addTo(x, place, 0);
                int shut = 6 - x.block(0, 6) - x.block(0, 7);
                DUE.due("sides shut by a block in place " + place, shut, isBesideMiddle(place) ? 1 : 0);
            }
        }
        IceTrade y = withRoom(0, 1, 1, 2, 10f);
        y.cut(0, 0, 0, 50000);
        y.cut(0, 1, 0, 50000);
        DUE.due("above", y.block(0, 6), 5);
        DUE.due("beneath", y.block(1, 6), 5);
    }

    private static void rowsDoNotWrapAround() {
        DUE.says("III", "else in air (nothing, a DRAIN, a ROW that is not LAID, beyond the ROOM)",
            "the last PLACE of a row is not beside the first one of the next");
        IceTrade x = withRoom(0, 3, 2, 1, 10f);
        x.cut(0, 2, 0, 50000);
        x.cut(0, 3, 0, 50000);
        DUE.due("the last of row 0", x.block(0, 6), 6);
        DUE.due("the first of row 1", x.block(1, 6), 6);
        x.put(0, 4, 0);
        DUE.due("straw beside the first of row 1", x.block(1, 7), 1);
        DUE.due("and not beside the last of row 0", x.block(0, 7), 0);
        IceTrade y = withRoom(0, 1, 3, 1, 10f);
        y.cut(0, 0, 0, 50000);
        y.cut(0, 1, 0, 50000);
        DUE.due("rows of one place: they are before and behind", y.block(0, 6), 5);
    }

    private static void layersDoNotWrapAround() {
        DUE.says("III", "else in air (nothing, a DRAIN, a ROW that is not LAID, beyond the ROOM)",
            "the last row of a layer is not before the first one of the next");
        IceTrade x = withRoom(0, 1, 2, 2, 10f);
        x.cut(0, 0, 0, 50000);
        x.cut(0, 2, 0, 50000);
        x.put(0, 1, 0);
        DUE.due("place 2: straw is not behind it", x.block(1, 7), 0);
        DUE.due("place 2: beneath is shut", x.block(1, 6), 5);
        DUE.due("place 0: straw is before it", x.block(0, 7), 1);
        DUE.due("place 0", x.block(0, 6), 4);
    }

    private static void inStraw() {
        DUE.says("III", "in STRAW where STRAW does");
        IceTrade x = withMiddle(0, 10f);
        DUE.due("beneath", x.block(0, 7), 1);
        int[] beside = {3, 12, 5, 14, 1, 10, 7, 16};
        for (int i = 0; i < 8; i += 2) {
            x.put(0, beside[i], 0);
            x.put(0, beside[i + 1], 0);
            DUE.due("and in place " + beside[i + 1], x.block(0, 7), 2 + i / 2);
        }
        x.put(0, 22, 0);
        DUE.due("and above", x.block(0, 7), 6);
        DUE.due("none is in air", x.block(0, 6), 0);
        DUE.due("loss", x.block(0, 8), 6 * 120);
    }

    private static void elseInAir() {
        DUE.says("III", "else in air (nothing, a DRAIN, a ROW that is not LAID, beyond the ROOM)",
            "nothing, a DRAIN, beyond the ROOM");
        IceTrade x = withRoom(0, 3, 1, 1, 10f);
        x.cut(0, 1, 0, 50000);
        DUE.due("two of nothing, four beyond the room", x.block(0, 6), 6);
        x.put(0, 0, 1);
        x.put(0, 2, 1);
        DUE.due("two drains", x.block(0, 6), 6);
        DUE.due("none in straw", x.block(0, 7), 0);
        IceTrade y = withRoom(0, 1, 1, 1, 10f);
        y.cut(0, 0, 0, 50000);
        DUE.due("all beyond the room", y.block(0, 6), 6);
    }

    private static void rowsThatAreNotLaid() {
        DUE.says("III", "else in air (nothing, a DRAIN, a ROW that is not LAID, beyond the ROOM)", "a ROW that is not LAID");
        IceTrade x = new IceTrade();
        x.room(0, 1, 3, 2, -1);
        x.lay(0, 0, 1);
        x.cut(0, 1, 0, 50000);
        DUE.due("before, behind and above no row is laid", x.block(0, 6), 6);
        x.lay(0, 0, 0);
        DUE.due("nor is it shut by a row that is", x.block(0, 6), 6);
    }

    private static void rates() {
        DUE.says("III", "RATE is 3, of SALT 5");
        for (int kind = 0; kind <= 2; kind++) {
            IceTrade x = withRoom(0, 1, 1, 1, 10f);
            x.cut(0, 0, kind, 50000);
            DUE.due("loss of kind " + kind, x.block(0, 8), kind == 2 ? 6 * 5 * 98 : 6 * 3 * 100);
        }
    }

    private static void warmthAboveNought() {
        DUE.says("III", "GRAMS are RATE times the WARMTH, if that is above 0, else 0");
        float[] degrees = {0.15f, 0.1f, 0.05f, 0f, -0.05f, -0.15f, -60f};
        int[] due = {18, 18, 0, 0, 0, 0, 0};
        for (int i = 0; i < due.length; i++) {
            IceTrade x = withRoom(0, 1, 1, 1, degrees[i]);
            x.cut(0, 0, 0, 50000);
            DUE.due("loss at " + degrees[i], x.block(0, 8), due[i]);
            DUE.due("day() at " + degrees[i], x.day(), due[i]);
        }
        IceTrade y = withRoom(0, 2, 1, 1, 0.3f);
        y.cut(0, 0, 0, 50000);
        y.cut(0, 1, 2, 50000);
        DUE.due("3 tenths less 2", y.block(0, 8), 15);
        Due.warm(y, 0, 0.25f);
        DUE.due("2 tenths less 2", y.block(0, 8), 0);
        Due.warm(y, 0, 0.1f);
        DUE.due("1 tenth less 2", y.block(0, 8), 0);
    }

    private static void strawIsCutForEachSide() {
        DUE.says("III", "its sides in STRAW times (GRAMS times PART / 100, cut)");
        IceTrade x = withRoom(0, 3, 1, 1, 1.1f);
        x.put(0, 0, 0);
        x.cut(0, 1, 0, 50000);
        x.put(0, 2, 0);
        // 33 grams a side: 40 of 100 of it are 13.2
        DUE.due("two of 13", x.block(0, 8), 4 * 33 + 2 * 13);
        // 17.82 each, so 17 and 17; both together would be 35.64
        x.terms(54, 200, 1000);
        DUE.due("two of 17", x.block(0, 8), 4 * 33 + 2 * 17);
        x.terms(3, 200, 1000);
        DUE.due("less than one gram is none", x.block(0, 8), 4 * 33);
    }

    private static void wetInAPit() {
        DUE.says("III", "WET if it stands in water: in a PIT");
        for (int kind = 0; kind <= 5; kind++) {
            if (kind != 2) {
                IceTrade x = withRoom(kind, 1, 1, 1, -60f);
                x.cut(0, 0, 0, 50000);
                DUE.due("loss in kind " + kind, x.block(0, 8), kind == 5 ? 200 : 0);
            }
        }
        IceTrade y = withRoom(5, 1, 1, 1, -60f);
        y.room(2, 1, 1, 1, 0);
        Due.layAll(y, 1);
        y.cut(1, 0, 0, 50000);
        DUE.due("an inner room in a pit is none", y.block(0, 8), 0);
    }

    private static void wetInLayerNought() {
        DUE.says("III", "in a PIT, layer 0");
        IceTrade x = withRoom(5, 2, 2, 2, -60f);
        for (int place = 0; place < 8; place++) {
            x.cut(0, place, 0, 50000);
            DUE.due("loss in place " + place, x.block(place, 8), place < 4 ? 200 : 0);
        }
    }

    private static void wetWithoutADrain() {
        DUE.says("III", "with no DRAIN in that layer");
        for (int drain = 1; drain < 4; drain++) {
            IceTrade x = withRoom(5, 2, 2, 2, -60f);
            x.cut(0, 0, 0, 50000);
            DUE.due("without a drain", x.block(0, 8), 200);
            x.put(0, drain, 1);
            DUE.due("with one in place " + drain, x.block(0, 8), 0);
            x.clear(0, drain);
            DUE.due("without it again", x.block(0, 8), 200);
            x.put(0, drain, 0);
            DUE.due("straw is none", x.block(0, 8), 200);
            x.put(0, drain + 4, 1);
            DUE.due("nor one in layer 1", x.block(0, 8), 200);
        }
        IceTrade y = withRoom(5, 3, 1, 1, -60f);
        y.cut(0, 0, 0, 50000);
        y.put(0, 1, 1);
        y.put(0, 2, 1);
        y.clear(0, 1);
        DUE.due("one of two is left", y.block(0, 8), 0);
        y.clear(0, 2);
        DUE.due("none of two", y.block(0, 8), 200);
        y.put(0, 1, 1);
        DUE.due("one again", y.block(0, 8), 0);
    }

    private static void wetInFrost() {
        DUE.says("III", "its sides in air times GRAMS, [..] and WET if it stands in water", "each for itself");
        IceTrade x = withRoom(5, 1, 1, 1, -8f);
        x.cut(0, 0, 0, 50000);
        DUE.due("WARMTH 0", x.block(0, 8), 200);
        Due.warm(x, 0, -7.8f);
        DUE.due("WARMTH 1", x.block(0, 8), 18 + 200);
        Due.warm(x, 0, -8.2f);
        DUE.due("WARMTH -1", x.block(0, 8), 200);
    }

    private static void atMostWhatItWeighs() {
        DUE.says("III", "at most what it weighs");
        int[] grams = {1799, 1800, 1801};
        for (int g : grams) {
            IceTrade x = withRoom(0, 1, 1, 1, 10f);
            x.cut(0, 0, 0, g);
            DUE.due("loss of " + g, x.block(0, 8), Math.min(g, 1800));
            x.terms(40, 200, 1);
            DUE.due("day() of " + g, x.day(), Math.min(g, 1800));
            DUE.due("what is left of " + g, x.block(0, 1), Math.max(0, g - 1800));
            DUE.due("it is gone", x.block(0, 2), g > 1800 ? 0 : -1);
            DUE.due("gone grams", x.count(5), 0);
        }
        IceTrade y = withRoom(5, 1, 1, 1, -60f);
        y.cut(0, 0, 0, 1000);
        y.terms(40, 10000, 1);
        DUE.due("WET too", y.block(0, 8), 1000);
        DUE.due("day()", y.day(), 1000);
    }

    /** Were they looked at one by one, the next one would lie bare, and without salt, as its neighbour goes. */
    private static void allByHowTheyLay() {
        DUE.says("III", "each BLOCK that lies in a ROOM loses its LOSS of TODAY, all by how they lay at its beginning");
        IceTrade x = withRoom(0, 3, 1, 1, 10f);
        x.cut(0, 0, 2, 1000);
        x.cut(0, 1, 1, 50000);
        x.cut(0, 2, 0, 1000);
        x.cut(0, 0, 0, 1000);
        DUE.due("day()", x.day(), 1000 + 4 * 3 * 98 + 1000);
        DUE.due("what is left", x.block(1, 1), 50000 - 1176);
        DUE.due("it is spoilt by one that is gone now", x.block(1, 5), 0);
        IceTrade y = withRoom(5, 2, 1, 2, -60f);
        y.cut(0, 0, 0, 50000);
        y.cut(0, 2, 0, 50000);
        y.take(0, 1);
        DUE.due("one that is taken loses nothing", y.day(), 200);
        DUE.due("it weighs as then", y.block(1, 1), 50000);
    }

    private static void belowLeast() {
        DUE.says("III", "what is below LEAST then is GONE");
        int[] least = {1000, 1, 1000000};
        for (int limit : least) {
            for (int more = -1; more <= 1; more++) {
                IceTrade x = withRoom(5, 1, 1, 1, -60f);
                int grams = Math.max(1000, Math.min(1000000, limit + 5000));
                x.cut(0, 0, 0, grams);
                int wet = grams - limit - more;
                if (wet < 0 || wet > 10000) {
                    continue;
                }
                x.terms(40, wet, limit);
                x.day();
                DUE.due(limit + more + " grams of " + limit, x.block(0, 1), more < 0 ? 0 : limit + more);
                DUE.due("its room", x.block(0, 2), more < 0 ? -1 : 0);
                DUE.due("its place holds", x.place(0, 0), more < 0 ? 0 : 10);
            }
        }
    }

    private static void belowLeastWithoutLoss() {
        DUE.says("III", "what is below LEAST then is GONE", "one that lost nothing");
        IceTrade x = withRoom(0, 2, 1, 1, -60f);
        x.cut(0, 0, 0, 5000);
        x.cut(0, 1, 0, 5001);
        x.terms(40, 200, 5001);
        DUE.due("it lies there until a day goes by", x.place(0, 0), 10);
        DUE.due("day()", x.day(), 0);
        DUE.due("below LEAST", x.place(0, 0), 0);
        DUE.due("just LEAST", x.place(0, 1), 11);
        DUE.due("gone grams", x.count(5), 5000);
    }

    private static void whatIsLeftCounts() {
        DUE.says("III", "(what is left of it counts so; its PLACE holds nothing)");
        IceTrade x = withRoom(0, 3, 1, 1, 1f);
        x.cut(0, 0, 0, 1179);
        x.cut(0, 2, 0, 1000);
        DUE.due("day()", x.day(), 360);
        DUE.due("gone grams", x.count(5), 999 + 820);
        DUE.due("melted grams", x.count(4), 360);
        DUE.due("place(0, 0)", x.place(0, 0), 0);
        DUE.due("place(0, 2)", x.place(0, 2), 0);
        DUE.due("another block may come there", x.cut(0, 0, 0, 1000), 2);
    }

    private static void todayIsOneMore() {
        DUE.says("III", "TODAY is one more");
        IceTrade x = new IceTrade();
        for (int day = 0; day < 199; day++) {
            DUE.due("count(0)", x.count(0), day);
            x.day();
        }
        DUE.due("count(0)", x.count(0), 199);
    }

    /** A column of five blocks, of which one went and left its place to a drain. */
    private static IceTrade withDrainInColumn(int layer) {
        IceTrade x = withRoom(0, 2, 1, 5, -60f);
        for (int z = 0; z < 5; z++) {
            x.cut(0, 2 * z, 0, z == layer ? 1000 : 50000);
        }
        x.terms(40, 200, 1001);
        x.day();
        x.put(0, 2 * layer, 1);
        Due.warm(x, 1, 10f);
        return x;
    }

    private static void ledBeneathInItsColumn() {
        DUE.says("III", "The LOSS is LED off, if a DRAIN lies beneath in its column");
        for (int layer = 1; layer < 5; layer++) {
            IceTrade x = withDrainInColumn(layer);
            int above = 0;
            int below = 0;
            for (int z = 0; z < 5; z++) {
                if (z != layer) {
                    above += z > layer ? x.block(z, 8) : 0;
                    below += z < layer ? x.block(z, 8) : 0;
                }
            }
            x.day();
            DUE.due("led off above a drain in layer " + layer, x.rooms(0, 8), above);
            DUE.due("standing beneath it", x.rooms(0, 9), below);
        }
    }

    private static void ledByLayerNought() {
        DUE.says("III", "or in the ROOM's layer 0");
        for (int drain = 1; drain < 4; drain++) {
            IceTrade x = withRoom(0, 2, 2, 2, 1f);
            x.cut(0, 0, 0, 50000);
            x.cut(0, 4, 0, 50000);
            x.put(0, drain, 1);
            DUE.due("day()", x.day(), 300);
            DUE.due("led off", x.rooms(0, 8), 300);
            DUE.due("standing", x.rooms(0, 9), 0);
        }
        IceTrade y = withDrainInColumn(0);
        int all = 0;
        for (int z = 1; z < 5; z++) {
            all += y.block(z, 8);
        }
        y.day();
        DUE.due("led off", y.rooms(0, 8), all);
    }

    private static void elseItStands() {
        DUE.says("III", "else it STANDS in the ROOM");
        IceTrade x = withRoom(0, 2, 1, 3, 1f);
        Due.laidRoom(x, 0, 2, 1, 1);
        x.put(1, 0, 1);
        x.cut(0, 0, 0, 50000);
        x.put(0, 2, 1);
        x.put(0, 1, 0);
        x.put(0, 3, 1);
        int loss = x.block(0, 8);
        x.day();
        DUE.due("a drain above, one askew above, one in another room", x.rooms(0, 9), loss);
        DUE.due("led off", x.rooms(0, 8), 0);
        DUE.due("in the other room", x.rooms(1, 9), 0);
        IceTrade y = withRoom(0, 1, 1, 1, 1f);
        y.cut(0, 0, 0, 1179);
        y.day();
        DUE.due("what is left of one that is gone does not", y.rooms(0, 9), 180);
    }

    private static void spoiltBySalt() {
        DUE.says("III", "A CLEAR BLOCK is SPOILT on a day as whose beginning a SALT one lies at one of its sides");
        for (int place = 0; place < 27; place++) {
            if (place != 13 && place != 4) {
                IceTrade x = withMiddle(1, -60f);
                addTo(x, place, 2);
                DUE.due("not before the day goes by", x.block(0, 5), -1);
                x.day();
                DUE.due("spoilt by salt in place " + place, x.block(0, 5), isBesideMiddle(place) ? 0 : -1);
            }
        }
        IceTrade y = withRoom(0, 1, 1, 2, -60f);
        y.cut(0, 0, 2, 50000);
        y.cut(0, 1, 1, 50000);
        y.day();
        DUE.due("spoilt by salt beneath", y.block(1, 5), 0);
        IceTrade z = withRoom(0, 6, 1, 1, -60f);
        z.cut(0, 3, 1, 50000);
        z.cut(0, 4, 2, 50000);
        z.cut(0, 0, 1, 50000);
        z.day();
        DUE.due("the one beside it", z.block(0, 5), 0);
        DUE.due("another one", z.block(2, 5), -1);
    }

    private static void saltThatWrapsAround() {
        DUE.says("III", "a SALT one lies at one of its sides",
            "the last PLACE of a row is not beside the first one of the next");
        IceTrade x = withRoom(0, 2, 2, 1, -60f);
        x.cut(0, 1, 1, 50000);
        x.cut(0, 2, 2, 50000);
        x.day();
        DUE.due("salt in the next row", x.block(0, 5), -1);
        IceTrade y = withRoom(0, 1, 2, 2, -60f);
        y.cut(0, 0, 0, 50000);
        y.cut(0, 1, 2, 50000);
        y.cut(0, 2, 1, 50000);
        y.day();
        DUE.due("salt in the layer beneath", y.block(2, 5), -1);
    }

    private static void spoiltByWater() {
        DUE.says("III", "or it stands in water");
        IceTrade x = withRoom(5, 2, 1, 2, -60f);
        x.cut(0, 0, 1, 50000);
        x.cut(0, 2, 1, 50000);
        x.put(0, 1, 1);
        x.terms(40, 0, 1000);
        x.day();
        DUE.due("with a drain it stands in none", x.block(0, 5), -1);
        x.clear(0, 1);
        DUE.due("day() of WET 0", x.day(), 0);
        DUE.due("without it does", x.block(0, 5), 1);
        DUE.due("the upper one does not", x.block(1, 5), -1);
    }

    private static void onlyClearOnesAreSpoilt() {
        DUE.says("III", "A CLEAR BLOCK is SPOILT");
        IceTrade x = withRoom(5, 3, 1, 1, -60f);
        x.cut(0, 0, 0, 50000);
        x.cut(0, 1, 2, 50000);
        x.cut(0, 2, 2, 50000);
        x.day();
        for (int block = 0; block < 3; block++) {
            DUE.due("block(" + block + ", 5)", x.block(block, 5), -1);
        }
        IceTrade y = withRoom(5, 2, 1, 1, -60f);
        y.cut(0, 0, 1, 50000);
        y.cut(0, 1, 2, 50000);
        y.take(0, 2);
        y.day();
        DUE.due("nor one that is taken", y.block(0, 5), -1);
    }

    private static void parts() {
        DUE.says("Promise 13", "PART (0 .. 100)");
        IceTrade x = withRoom(0, 2, 1, 1, 10f);
        x.cut(0, 0, 0, 50000);
        x.put(0, 1, 0);
        int[] good = {0, 1, 99, 100};
        for (int part : good) {
            DUE.told(x, "PART " + part, x.terms(part, 200, 1000), 0);
            DUE.due("loss", x.block(0, 8), 1500 + 3 * part);
        }
        int[] bad = {-1, 101, WILD[0], WILD[1]};
        for (int part : bad) {
            DUE.told(x, "PART " + part, x.terms(part, 200, 1000), -1);
            DUE.due("loss", x.block(0, 8), 1800);
        }
    }

    private static void wets() {
        DUE.says("Promise 13", "WET (0 .. 10000)");
        IceTrade x = withRoom(5, 1, 1, 1, -60f);
        x.cut(0, 0, 0, 50000);
        int[] good = {0, 1, 9999, 10000};
        for (int wet : good) {
            DUE.told(x, "WET " + wet, x.terms(40, wet, 1000), 0);
            DUE.due("loss", x.block(0, 8), wet);
        }
        int[] bad = {-1, 10001, WILD[0], WILD[1]};
        for (int wet : bad) {
            DUE.told(x, "WET " + wet, x.terms(40, wet, 1000), -1);
            DUE.due("loss", x.block(0, 8), 10000);
        }
    }

    private static void leasts() {
        DUE.says("Promise 13", "LEAST (1 .. 1000000)");
        IceTrade x = withRoom(0, 2, 1, 1, -60f);
        x.cut(0, 0, 0, 999999);
        x.cut(0, 1, 0, 1000000);
        int[] bad = {0, -1, 1000001, WILD[0], WILD[1]};
        for (int least : bad) {
            DUE.told(x, "LEAST " + least, x.terms(40, 200, least), -1);
        }
        DUE.told(x, "LEAST 1", x.terms(40, 200, 1), 0);
        x.day();
        DUE.due("both lie there", x.count(9), 2);
        DUE.told(x, "LEAST 1000000", x.terms(40, 200, 1000000), 0);
        x.day();
        DUE.due("one gram below", x.block(0, 2), -1);
        DUE.due("just LEAST", x.block(1, 2), 0);
    }

    private static void termsThatAreRefused() {
        DUE.says("REFUSED", "What is REFUSED changes nothing but status()", "terms: none of the three, whichever is wrong");
        int[][] bad = {{101, 0, 1}, {0, 10001, 1}, {0, 0, 0}};
        for (int[] b : bad) {
            IceTrade x = withRoom(5, 3, 1, 1, 2f);
            x.cut(0, 0, 0, 50000);
            x.put(0, 1, 0);
            x.cut(0, 2, 0, 1500);
            DUE.told(x, "terms", x.terms(b[0], b[1], b[2]), -1);
            DUE.due("PART and WET are as they were", x.block(0, 8), 5 * 150 + 60 + 200);
            x.day();
            DUE.due("LEAST is as it was", x.block(1, 1), 0);
        }
    }

    private static void howManyMelted() {
        DUE.says("Promise 14", "A DAY goes by: how many grams MELTED on it");
        IceTrade x = new IceTrade();
        DUE.told(x, "without any room", x.day(), 0);
        Due.laidRoom(x, 0, 1, 1, 1);
        DUE.told(x, "an empty room", x.day(), 0);
        Due.laidRoom(x, 5, 1, 1, 1);
        x.cut(0, 0, 0, 5000);
        x.cut(1, 0, 0, 5000);
        Due.warm(x, 2, 1f);
        // the pit has 45 tenths; the day's own alone are told
        DUE.told(x, "both rooms", x.day(), 180 + 6 * 135 + 200);
        DUE.told(x, "the next day", x.day(), 180 + 6 * 135 + 200);
        DUE.due("melted in all", x.count(4), 2 * (180 + 6 * 135 + 200));
    }

    private static void theLastDay() {
        DUE.says("Promise 14", "-7: TODAY is 199");
        IceTrade x = withRoom(0, 1, 1, 1, 1f);
        x.cut(0, 0, 0, 1000000);
        for (int day = 0; day < 199; day++) {
            DUE.told(x, "day() of " + day, x.day(), 180);
        }
        int grams = x.count(2);
        DUE.told(x, "day() of 199", x.day(), -7);
        DUE.told(x, "day() of 199 again", x.day(), -7);
        DUE.due("TODAY", x.count(0), 199);
        DUE.due("nothing melted", x.count(2), grams);
        DUE.due("the BOOK is that of day 198", x.line(0, 5), grams);
    }

    private static void asTodayIs199() {
        DUE.says("I", "DAYS 0 .. 199; TODAY is 0 at first", "TODAY is 199");
        IceTrade x = withRoom(0, 2, 1, 1, -60f);
        Due.warm(x, 199, 10f);
        Due.days(x, 199);
        DUE.due("WARMTH TODAY", x.rooms(0, 5), 100);
        DUE.due("cut", x.cut(0, 0, 0, 5000), 0);
        DUE.due("the day on which it was cut", x.block(0, 4), 199);
        DUE.due("LOSS TODAY", x.block(0, 8), 1800);
        x.cut(0, 1, 2, 5000);
        DUE.due("THE NEXT", x.next(0), 1);
        DUE.due("take(0, 2)", x.take(0, 2), 10000);
    }

    private static void counts() {
        DUE.says("Promise 15", "TODAY (0), grams CUT (1), [..] of the latest TAKEN or SENT ones (15)",
            "the greatest numbers");
        IceTrade x = new IceTrade();
        Due.laidRoom(x, 0, 6, 6, 5);
        Due.laidRoom(x, 0, 6, 5, 4);
        for (int i = 0; i < 300; i++) {
            x.cut(i / 180, i % 180, 0, 1000000);
        }
        DUE.due("grams cut", x.count(1), 300000000);
        DUE.due("grams in rooms", x.count(2), 300000000);
        DUE.due("blocks ever", x.count(8), 300);
        DUE.due("blocks in rooms", x.count(9), 300);
        x.take(0, 180);
        DUE.due("grams sold", x.count(3), 180000000);
        DUE.due("the latest taken ones", x.count(15), 180);
        DUE.due("blocks ever", x.count(8), 300);
        DUE.due("blocks in rooms", x.count(9), 120);
        for (int i = 0; i < 6; i++) {
            x.way(3, 20);
        }
        DUE.due("stretches", x.count(11), 6);
        DUE.due("their days", x.count(12), 120);
        for (int i = 0; i < 30; i++) {
            x.heap(0, 1000);
        }
        DUE.due("blocks of the heap", x.count(14), 30);
    }

    /** In rooms 0, 2, 4 and 6 the loss stands, in the others it is led off. */
    private static void countsOfAllRooms() {
        DUE.says("Promise 15", "grams CUT (1), in ROOMS (2), SOLD (3), MELTED (4), GONE (5), LED (6), STANDING (7)",
            "of 8 ROOMS");
        IceTrade x = new IceTrade();
        Due.warm(x, 0, 1f);
        for (int room = 0; room < 8; room++) {
            Due.laidRoom(x, 0, 3, 1, 1);
            x.cut(room, 0, 0, 5000 << room);
            x.cut(room, 2, 0, 1000 + room);
            if (room % 2 == 1) {
                x.put(room, 1, 1);
            }
        }
        int large = 5000 * 255;
        int small = 8 * 1000 + 28;
        DUE.due("CUT", x.count(1), large + small);
        DUE.due("in ROOMS", x.count(2), large + small);
        DUE.due("day()", x.day(), 16 * 180);
        DUE.due("MELTED", x.count(4), 16 * 180);
        DUE.due("GONE", x.count(5), small - 8 * 180);
        DUE.due("LED", x.count(6), 8 * 180);
        DUE.due("STANDING", x.count(7), 8 * 180);
        for (int room = 0; room < 8; room++) {
            DUE.due("SOLD from " + room, x.take(room, 1), (5000 << room) - 180);
        }
        DUE.due("SOLD", x.count(3), large - 8 * 180);
        DUE.due("in ROOMS", x.count(2), 0);
    }

    private static void otherCounts() {
        DUE.says("Promise 15", "-1 for others");
        IceTrade x = new IceTrade();
        int[] others = {-1, 16, WILD[0], WILD[1]};
        for (int what : others) {
            DUE.due("count(" + what + ")", x.count(what), -1);
        }
        for (int what = 0; what <= 15; what++) {
            DUE.due("count(" + what + ")", x.count(what), 0);
        }
    }
}
