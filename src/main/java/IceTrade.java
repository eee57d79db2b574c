/** A trade in ice: what is cut in January must be sold before it is water. */
public final class IceTrade {
    public static final int NONE = -1;

    private static final int BAD_NUMBER = -1;
    private static final int NO_SUCH = -2;
    private static final int ROW_NOT_LAID = -3;
    private static final int NOT_FREE = -4;
    private static final int NOTHING_BENEATH = -5;
    private static final int TOO_MANY = -6;
    private static final int NOT_AS_THINGS_ARE = -7;

    private static final int LAST_DAY = 199;
    private static final int NO_SUCH_DAY = -1000;
    private static final int MOST_ROOMS = 8;
    private static final int MOST_WIDTH = 6;
    private static final int MOST_ROWS = 6;
    private static final int MOST_LAYERS = 5;
    private static final int MOST_PLACES = MOST_WIDTH * MOST_ROWS * MOST_LAYERS;
    private static final int MOST_BLOCKS = 300;
    private static final int LEAST_CUT = 1000;
    private static final int MOST_CUT = 1000000;
    private static final int MOST_WET = 10000;
    private static final int MOST_SENT = 100000000;
    private static final int MOST_CENTS = 5000;
    private static final int IMAGES = 4;
    private static final int SIDES = 6;

    private static final int CELLAR = 1;
    private static final int INNER = 2;
    private static final int BOAT = 3;
    private static final int CART = 4;
    private static final int PIT = 5;

    private static final int PLAIN = 0;
    private static final int CLEAR = 1;
    private static final int SALT = 2;

    private static final int NOTHING = 0;
    private static final int STRAW = 1;
    private static final int DRAIN = 2;
    private static final int FIRST_BLOCK = 10;

    private final Store store = new Store();
    private final Calendar calendar = new Calendar();
    private final Melting melting = new Melting();
    private final Journey journey = new Journey();
    private final Heap heaped = new Heap();
    private final int[] prices = new int[SALT + 1];
    private final int[] lifted = new int[MOST_PLACES];
    private final int[] taken = new int[MOST_PLACES];
    private final Store[] images = new Store[IMAGES];
    private int liftedNumber;
    private int takenNumber;
    private int shortBy;
    private int cameTo;
    private int bill;
    private int refusal;
    // These are large, and most objects never need them: each is made at its first use and then kept.
    private Store spare;
    private Forecast forecast;
    private Book book;
    private Packer packer;

    public IceTrade() {
    }

    public int room(int kind, int width, int rows, int layers, int in) {
        boolean inIsRight = kind == INNER ? store.rooms.has(in) : in == NONE;
        if (!within(kind, 0, PIT) || !within(width, 1, MOST_WIDTH) || !within(rows, 1, MOST_ROWS)
                || !within(layers, 1, MOST_LAYERS) || !inIsRight) {
            return answer(BAD_NUMBER);
        }
        if (store.rooms.number >= MOST_ROOMS) {
            return answer(TOO_MANY);
        }
        return answer(store.rooms.open(kind, width, rows, layers, in));
    }

    public int rooms(int room, int what) {
        if (!within(what, 0, 11)) {
            return BAD_NUMBER;
        }
        if (!store.rooms.has(room)) {
            return NO_SUCH;
        }
        switch (what) {
            case 0: return store.rooms.kind[room];
            case 1: return store.rooms.width[room];
            case 2: return store.rooms.rows[room];
            case 3: return store.rooms.layers[room];
            case 4: return store.rooms.in[room];
            case 5: return melting.warmthIn(store, room, tenthsToday());
            case 6: return store.blocksIn(room);
            case 7: return store.gramsIn(room);
            case 8: return store.rooms.led[room];
            case 9: return store.rooms.standing[room];
            case 10: return melting.airSidesIn(store, room);
            default: return store.rooms.freeOnesIn(room);
        }
    }

    public int lay(int room, int layer, int row) {
        int refused = refusalOfRow(room, layer, row);
        if (refused != 0) {
            return answer(refused);
        }
        int step = store.rooms.rows[room];
        int index = row + step * layer;
        if (store.rooms.isLaid(room, index) || layer > 0 && !store.rooms.isLaid(room, index - step)) {
            return answer(NOT_AS_THINGS_ARE);
        }
        store.rooms.laid[room] |= 1 << index;
        return answer(0);
    }

    public int tear(int room, int layer, int row) {
        int refused = refusalOfRow(room, layer, row);
        if (refused != 0) {
            return answer(refused);
        }
        int step = store.rooms.rows[room];
        int index = row + step * layer;
        if (!store.rooms.isLaid(room, index)) {
            return answer(ROW_NOT_LAID);
        }
        if (store.rooms.isLaid(room, index + step) || !store.rooms.isRowBare(room, index)) {
            return answer(NOT_AS_THINGS_ARE);
        }
        store.rooms.laid[room] &= ~(1 << index);
        return answer(0);
    }

    public int cut(int room, int place, int kind, int grams) {
        if (!isWeightOfKind(kind, grams)) {
            return answer(BAD_NUMBER);
        }
        int refused = refusalToFill(room, place);
        if (refused == 0 && store.blocks.number >= MOST_BLOCKS) {
            refused = TOO_MANY;
        }
        return answer(refused != 0 ? refused : store.cutBlock(room, place, kind, grams));
    }

    public int put(int room, int place, int what) {
        if (!within(what, 0, 1)) {
            return answer(BAD_NUMBER);
        }
        int refused = refusalToFill(room, place);
        if (refused == 0 && what == 0 && !store.rooms.mayHoldStraw(room)) {
            refused = NOT_AS_THINGS_ARE;
        }
        if (refused == 0) {
            store.rooms.fill(room, place, what == 0 ? STRAW : DRAIN);
        }
        return answer(refused);
    }

    public int clear(int room, int place) {
        int refused = refusalOfPlace(room, place);
        if (refused != 0) {
            return answer(refused);
        }
        int what = store.rooms.at(room, place);
        if (what != STRAW && what != DRAIN || store.rooms.above(room, place) != NOTHING) {
            return answer(NOT_AS_THINGS_ARE);
        }
        store.rooms.fill(room, place, NOTHING);
        return answer(0);
    }

    public int place(int room, int place) {
        int refused = refusalOfPlace(room, place);
        return refused != 0 ? refused : store.rooms.at(room, place);
    }

    public int block(int block, int what) {
        if (!within(what, 0, 9)) {
            return BAD_NUMBER;
        }
        if (!store.blocks.has(block)) {
            return NO_SUCH;
        }
        switch (what) {
            case 0: return store.blocks.kind[block];
            case 1: return store.blocks.grams[block];
            case 2: return store.blocks.room[block];
            case 3: return store.blocks.place[block];
            case 4: return store.blocks.cutDay[block];
            case 5: return store.blocks.spoiltDay[block];
            default: return howBlockLies(block, what);
        }
    }

    public int warm(int day, int bits) {
        if (!within(day, 0, LAST_DAY)) {
            return answer(BAD_NUMBER);
        }
        return answer(calendar.tell(day, bits) ? 0 : BAD_NUMBER);
    }

    public int tenths(int day) {
        return within(day, 0, LAST_DAY) ? calendar.tenthsOf(day) : NO_SUCH_DAY;
    }

    public int terms(int part, int wet, int least) {
        if (!within(part, 0, 100) || !within(wet, 0, MOST_WET) || !within(least, 1, MOST_CUT)) {
            return answer(BAD_NUMBER);
        }
        melting.part = part;
        melting.wet = wet;
        melting.least = least;
        return answer(0);
    }

    public int day() {
        if (store.today >= LAST_DAY) {
            return answer(NOT_AS_THINGS_ARE);
        }
        if (book == null) {
            book = new Book();
        }
        melting.weigh(store, tenthsToday());
        book.write(store, melting);
        return answer(melting.passDay(store));
    }

    public int count(int what) {
        switch (what) {
            case 0: return store.today;
            case 1: return store.cutGrams;
            case 2: return store.gramsInRooms();
            case 3: return store.soldGrams;
            case 4: return store.meltedGrams;
            case 5: return store.goneGrams;
            case 6: return store.rooms.ledInAll();
            case 7: return store.rooms.standingInAll();
            case 8: return store.blocks.number;
            case 9: return store.blocksInRooms();
            case 10: return store.rooms.number;
            case 11: return journey.stretches;
            case 12: return journey.daysInAll();
            case 13: return book == null ? 0 : book.lines;
            case 14: return heaped.number;
            case 15: return takenNumber;
            default: return BAD_NUMBER;
        }
    }

    public int next(int room) {
        return store.rooms.has(room) ? melting.nearest(store, room, tenthsToday()) : NO_SUCH;
    }

    public int take(int room, int n) {
        if (!within(n, 1, MOST_BLOCKS)) {
            return answer(BAD_NUMBER);
        }
        if (!store.rooms.has(room)) {
            return answer(NO_SUCH);
        }
        if (!lift(room, n)) {
            return answer(TOO_MANY);
        }
        return answer(sellLifted());
    }

    public int way(int kind, int days) {
        if (kind != CART && kind != BOAT || !within(days, 0, Journey.MOST_DAYS)) {
            return answer(BAD_NUMBER);
        }
        if (journey.stretches >= Journey.MOST_STRETCHES) {
            return answer(TOO_MANY);
        }
        return answer(journey.stretch(kind, days));
    }

    public int home() {
        int stretches = journey.stretches;
        journey.stretches = 0;
        // nothing refuses this call, so what the latest one of the others was refused by stays
        return stretches;
    }

    public int comes(int room, int n) {
        if (!within(n, 0, MOST_BLOCKS)) {
            return BAD_NUMBER;
        }
        if (!store.rooms.has(room)) {
            return NO_SUCH;
        }
        if (!lift(room, n)) {
            return TOO_MANY;
        }
        int grams = 0;
        for (int i = 0; i < liftedNumber; i++) {
            grams += atWaysEnd(lifted[i]);
        }
        putLiftedBack();
        return grams;
    }

    public int send(int room, int grams) {
        if (!within(grams, 1, MOST_SENT)) {
            return answer(BAD_NUMBER);
        }
        if (!store.rooms.has(room)) {
            return answer(NO_SUCH);
        }
        int coming = liftToSend(room, grams);
        if (coming < grams) {
            putLiftedBack();
            shortBy = grams - coming;
            cameTo = 0;
            bill = 0;
            return answer(TOO_MANY);
        }
        shortBy = 0;
        cameTo = coming;
        bill = billOfLifted();
        sellLifted();
        return answer(takenNumber);
    }

    public int sent(int what) {
        switch (what) {
            case 0: return shortBy;
            case 1: return cameTo;
            case 2: return bill;
            default: return BAD_NUMBER;
        }
    }

    public int list(int i) {
        return within(i, 0, takenNumber - 1) ? taken[i] : NONE;
    }

    public int price(int kind, int cents) {
        if (!within(kind, PLAIN, SALT) || !within(cents, 0, MOST_CENTS)) {
            return answer(BAD_NUMBER);
        }
        prices[kind] = cents;
        return answer(0);
    }

    public int foretell(int days, int back) {
        if (!within(days, 1, LAST_DAY + 1) || !within(back, 0, LAST_DAY)) {
            return answer(BAD_NUMBER);
        }
        if (spare == null) {
            spare = new Store();
        }
        if (forecast == null) {
            forecast = new Forecast();
        }
        spare.copyFrom(store);
        forecast.begin(spare);
        for (int i = 0; i < days && spare.today < LAST_DAY; i++) {
            int lookedAt = spare.today - back;
            melting.weigh(spare, calendar.tenthsOf(lookedAt < 0 ? 0 : lookedAt));
            melting.passDay(spare);
            forecast.note(spare);
        }
        return answer(forecast.days);
    }

    public int foretold(int room, int i) {
        return forecast == null ? BAD_NUMBER : forecast.gramsBehind(room, i);
    }

    public int last() {
        return forecast == null ? NONE : forecast.emptyDay;
    }

    public int heap(int kind, int grams) {
        if (!isWeightOfKind(kind, grams)) {
            return answer(BAD_NUMBER);
        }
        if (heaped.number >= Heap.MOST) {
            return answer(TOO_MANY);
        }
        return answer(heaped.add(kind, grams));
    }

    public int pack(int room) {
        if (!store.rooms.has(room)) {
            return answer(NO_SUCH);
        }
        if (heaped.number > store.rooms.size[room] || heaped.number > MOST_BLOCKS - store.blocks.number) {
            return answer(TOO_MANY);
        }
        if (heaped.number == 0 || !store.rooms.isAllLaid(room) || !store.rooms.isBare(room)) {
            return answer(NOT_AS_THINGS_ARE);
        }
        if (packer == null) {
            packer = new Packer();
        }
        packer.choose(store.rooms, room, heaped.number);
        cutHeapInto(room);
        return answer(melting.airSidesIn(store, room));
    }

    public int image(int k) {
        if (!within(k, 0, IMAGES - 1)) {
            return answer(BAD_NUMBER);
        }
        if (images[k] == null) {
            images[k] = new Store();
        }
        images[k].copyFrom(store);
        return answer(0);
    }

    public int back(int k) {
        if (!within(k, 0, IMAGES - 1)) {
            return answer(BAD_NUMBER);
        }
        if (images[k] == null) {
            return answer(NO_SUCH);
        }
        store.copyFrom(images[k]);
        if (book != null) {
            book.empty();
        }
        return answer(0);
    }

    public int line(int i, int what) {
        int refused = refusalOfLine(i, what);
        return refused != 0 || book == null ? refused : book.number(i, what);
    }

    public int alter(int i, int what, int mask) {
        int refused = mask == 0 ? BAD_NUMBER : refusalOfLine(i, what);
        if (refused == 0 && book != null) {
            book.change(i, what, mask);
        }
        return answer(refused);
    }

    public int check() {
        return book == null || !book.written ? NOT_AS_THINGS_ARE : book.firstWrong();
    }

    public int status() {
        return refusal;
    }

    /** What a call that may be refused answers: all that is below 0 there is a refusal. */
    private int answer(int number) {
        refusal = number < 0 ? number : 0;
        return number;
    }

    private static boolean within(int number, int least, int most) {
        return number >= least && number <= most;
    }

    private static boolean isWeightOfKind(int kind, int grams) {
        return within(kind, PLAIN, SALT) && within(grams, LEAST_CUT, MOST_CUT);
    }

    private static int rateOf(int kind) {
        return kind == SALT ? 5 : 3;
    }

    /** The place at one of the six sides of a place, NONE where the room ends. */
    private static int beside(int side, int place, int width, int rows, int layers) {
        if (width < 1 || rows < 1) {
            return NONE;
        }
        int floor = width * rows;
        int x = place % width;
        int y = place / width % rows;
        switch (side) {
            case 0: return x > 0 ? place - 1 : NONE;
            case 1: return x < width - 1 ? place + 1 : NONE;
            case 2: return y > 0 ? place - width : NONE;
            case 3: return y < rows - 1 ? place + width : NONE;
            case 4: return place >= floor ? place - floor : NONE;
            default: return place + floor < floor * layers ? place + floor : NONE;
        }
    }

    private int tenthsToday() {
        return calendar.tenthsOf(store.today);
    }

    private int refusalOfRow(int room, int layer, int row) {
        if (!store.rooms.has(room)) {
            return NO_SUCH;
        }
        boolean isThere = within(layer, 0, store.rooms.layers[room] - 1) && within(row, 0, store.rooms.rows[room] - 1);
        return isThere ? 0 : BAD_NUMBER;
    }

    private int refusalOfPlace(int room, int place) {
        if (!store.rooms.has(room)) {
            return NO_SUCH;
        }
        if (!store.rooms.hasPlace(room, place)) {
            return BAD_NUMBER;
        }
        return store.rooms.isLaid(room, store.rooms.rowOf(room, place)) ? 0 : ROW_NOT_LAID;
    }

    private int refusalToFill(int room, int place) {
        int refused = refusalOfPlace(room, place);
        if (refused != 0) {
            return refused;
        }
        if (store.rooms.at(room, place) != NOTHING) {
            return NOT_FREE;
        }
        return store.rooms.bears(room, place) ? 0 : NOTHING_BENEATH;
    }

    private int refusalOfLine(int i, int what) {
        if (!within(what, 0, Book.NUMBERS - 1)) {
            return BAD_NUMBER;
        }
        return book != null && within(i, 0, book.lines - 1) ? 0 : NO_SUCH;
    }

    private int howBlockLies(int block, int what) {
        int room = store.blocks.room[block];
        int place = store.blocks.place[block];
        if (!store.rooms.has(room)) {
            return 0;
        }
        melting.sides.look(store, room, place);
        switch (what) {
            case 6: return melting.sides.air;
            case 7: return melting.sides.straw;
            case 8: return melting.lossOf(store, block, melting.warmthIn(store, room, tenthsToday()));
            default: return store.rooms.isFreeBlock(room, place) ? 1 : 0;
        }
    }

    private boolean liftNext(int room) {
        int block = melting.nearest(store, room, tenthsToday());
        if (block == NONE || liftedNumber >= MOST_PLACES) {
            return false;
        }
        store.liftUp(block);
        lifted[liftedNumber] = block;
        liftedNumber++;
        return true;
    }

    /** Lifts n blocks, or none of them if the room has not so many. */
    private boolean lift(int room, int n) {
        liftedNumber = 0;
        if (store.blocksIn(room) < n) {
            return false;
        }
        for (int i = 0; i < n; i++) {
            liftNext(room);
        }
        return true;
    }

    /** Lifts blocks until they come to so many grams or none is left: what they come to. */
    private int liftToSend(int room, int grams) {
        liftedNumber = 0;
        int coming = 0;
        for (int i = 0; i < MOST_PLACES && coming < grams && liftNext(room); i++) {
            coming += atWaysEnd(lifted[liftedNumber - 1]);
        }
        return coming;
    }

    private int atWaysEnd(int block) {
        return journey.leaves(store.blocks.kind[block], store.blocks.grams[block], store.today, calendar, melting.least);
    }

    private int billOfLifted() {
        int cents = 0;
        for (int i = 0; i < liftedNumber; i++) {
            int block = lifted[i];
            boolean spoilt = store.blocks.spoiltDay[block] != NONE;
            int kind = spoilt ? PLAIN : store.blocks.kind[block];
            cents += (int) ((long) store.blocks.grams[block] * prices[kind] / 1000);
        }
        return cents;
    }

    private void putLiftedBack() {
        for (int i = 0; i < liftedNumber; i++) {
            store.layDown(lifted[i]);
        }
    }

    private int sellLifted() {
        int grams = 0;
        for (int i = 0; i < liftedNumber; i++) {
            int block = lifted[i];
            grams += store.blocks.grams[block];
            store.blocks.leave(block);
            taken[i] = block;
        }
        takenNumber = liftedNumber;
        store.soldGrams += grams;
        return grams;
    }

    private void cutHeapInto(int room) {
        int told = 0;
        int size = store.rooms.size[room];
        for (int place = 0; place < size && told < heaped.number; place++) {
            if (packer.isChosen(place)) {
                store.cutBlock(room, place, heaped.kind[told], heaped.grams[told]);
                told++;
            }
        }
        heaped.number = 0;
    }

    /** The days' warmth outside, in tenths: of days that are not read it is that of the day ahead. */
    private static final class Calendar {
        private static final int SIXTY = 0x42700000;
        private static final int ENDLESS = 0x7F800000;

        private final boolean[] isRead = new boolean[LAST_DAY + 1];
        private final int[] tenths = new int[LAST_DAY + 1];

        int tenthsOf(int day) {
            return within(day, 0, LAST_DAY) ? tenths[day] : tenths[LAST_DAY];
        }

        /** Takes the float with these bits for a day that there is; false if it is none that may be. */
        boolean tell(int day, int bits) {
            int size = bits & 0x7FFFFFFF;
            boolean isNumber = size <= ENDLESS;
            if (isNumber && size > SIXTY) {
                return false;
            }
            isRead[day] = isNumber;
            if (isNumber) {
                tenths[day] = (int) (numberOf(bits) * 10.0f);
            }
            carryOnFrom(day);
            return true;
        }

        private void carryOnFrom(int day) {
            for (int i = day; i <= LAST_DAY; i++) {
                if (!isRead[i]) {
                    tenths[i] = i == 0 ? 0 : tenths[i - 1];
                }
            }
        }

        /** Halving is exact here: each step on the way to a float is a float too. */
        private static float numberOf(int bits) {
            int exponent = bits >>> 23 & 255;
            int digits = bits & 0x7FFFFF;
            float number = (float) (exponent == 0 ? digits : digits | 0x800000);
            for (int i = exponent == 0 ? 1 : exponent; i < 150; i++) {
                number = number / 2.0f;
            }
            return bits < 0 ? 0.0f - number : number;
        }
    }

    /** The rooms, which of their rows are laid, and what their places hold. */
    private static final class Rooms {
        int number;
        final int[] kind = new int[MOST_ROOMS];
        final int[] width = new int[MOST_ROOMS];
        final int[] rows = new int[MOST_ROOMS];
        final int[] layers = new int[MOST_ROOMS];
        final int[] in = new int[MOST_ROOMS];
        /** Places in a layer, and in all. */
        final int[] floor = new int[MOST_ROOMS];
        final int[] size = new int[MOST_ROOMS];
        final int[] led = new int[MOST_ROOMS];
        final int[] standing = new int[MOST_ROOMS];
        /** Counted as they come and go, since every loss asks for them. */
        final int[] salts = new int[MOST_ROOMS];
        private final int[] floorDrains = new int[MOST_ROOMS];
        /** A bit for each row: row + rows * layer, so at most 30 of them. */
        final int[] laid = new int[MOST_ROOMS];
        private final int[] cells = new int[MOST_ROOMS * MOST_PLACES];

        void copyFrom(Rooms other) {
            number = other.number;
            copy(other.kind, kind);
            copy(other.width, width);
            copy(other.rows, rows);
            copy(other.layers, layers);
            copy(other.in, in);
            copy(other.floor, floor);
            copy(other.size, size);
            copy(other.led, led);
            copy(other.standing, standing);
            copy(other.salts, salts);
            copy(other.floorDrains, floorDrains);
            copy(other.laid, laid);
            System.arraycopy(other.cells, 0, cells, 0, number * MOST_PLACES);
        }

        private void copy(int[] from, int[] to) {
            System.arraycopy(from, 0, to, 0, number);
        }

        boolean has(int room) {
            return room >= 0 && room < number;
        }

        int open(int itsKind, int itsWidth, int itsRows, int itsLayers, int inRoom) {
            int room = number;
            kind[room] = itsKind;
            width[room] = itsWidth;
            rows[room] = itsRows;
            layers[room] = itsLayers;
            in[room] = inRoom;
            floor[room] = itsWidth * itsRows;
            size[room] = floor[room] * itsLayers;
            led[room] = 0;
            standing[room] = 0;
            salts[room] = 0;
            floorDrains[room] = 0;
            laid[room] = 0;
            number++;
            // a room of that number may have been here before an image was brought back
            for (int place = 0; place < MOST_PLACES; place++) {
                cells[room * MOST_PLACES + place] = NOTHING;
            }
            return room;
        }

        boolean hasPlace(int room, int place) {
            return has(room) && place >= 0 && place < size[room];
        }

        int rowOf(int room, int place) {
            return width[room] < 1 ? 0 : place / width[room];
        }

        boolean isLaid(int room, int row) {
            return row < rows[room] * layers[room] && (laid[room] >>> row & 1) != 0;
        }

        boolean isAllLaid(int room) {
            return laid[room] == (1 << rows[room] * layers[room]) - 1;
        }

        /** Beyond the room there is nothing. */
        int at(int room, int place) {
            boolean isThere = room >= 0 && room < number && place >= 0 && place < size[room];
            return isThere ? cells[room * MOST_PLACES + place] : NOTHING;
        }

        void fill(int room, int place, int what) {
            if (!hasPlace(room, place)) {
                return;
            }
            if (isOnFloor(room, place)) {
                floorDrains[room] += (what == DRAIN ? 1 : 0) - (at(room, place) == DRAIN ? 1 : 0);
            }
            cells[room * MOST_PLACES + place] = what;
        }

        int above(int room, int place) {
            return at(room, place + floor[room]);
        }

        boolean isOnFloor(int room, int place) {
            return place < floor[room];
        }

        boolean bears(int room, int place) {
            int beneath = at(room, place - floor[room]);
            return isOnFloor(room, place) || beneath == STRAW || beneath >= FIRST_BLOCK;
        }

        boolean isRowBare(int room, int row) {
            int first = row * width[room];
            for (int x = 0; x < width[room]; x++) {
                if (at(room, first + x) != NOTHING) {
                    return false;
                }
            }
            return true;
        }

        boolean isBare(int room) {
            int all = rows[room] * layers[room];
            for (int row = 0; row < all; row++) {
                if (!isRowBare(room, row)) {
                    return false;
                }
            }
            return true;
        }

        boolean mayHoldStraw(int room) {
            return kind[room] != CART && (kind[room] != BOAT || layers[room] > 1);
        }

        boolean isFreeBlock(int room, int place) {
            return at(room, place) >= FIRST_BLOCK && above(room, place) < FIRST_BLOCK;
        }

        int freeOnesIn(int room) {
            int free = 0;
            for (int place = 0; place < size[room]; place++) {
                if (isFreeBlock(room, place)) {
                    free++;
                }
            }
            return free;
        }

        boolean hasDrainOnFloor(int room) {
            return floorDrains[room] > 0;
        }

        boolean isDrained(int room, int place) {
            if (hasDrainOnFloor(room)) {
                return true;
            }
            int beneath = place;
            for (int i = 1; i < MOST_LAYERS; i++) {
                beneath -= floor[room];
                if (at(room, beneath) == DRAIN) {
                    return true;
                }
            }
            return false;
        }

        boolean standsInWater(int room, int place) {
            return kind[room] == PIT && isOnFloor(room, place) && !hasDrainOnFloor(room);
        }

        int ledInAll() {
            int grams = 0;
            for (int room = 0; room < number; room++) {
                grams += led[room];
            }
            return grams;
        }

        int standingInAll() {
            int grams = 0;
            for (int room = 0; room < number; room++) {
                grams += standing[room];
            }
            return grams;
        }
    }

    /** All blocks that were ever cut. */
    private static final class Blocks {
        int number;
        final int[] kind = new int[MOST_BLOCKS];
        final int[] grams = new int[MOST_BLOCKS];
        final int[] room = new int[MOST_BLOCKS];
        final int[] place = new int[MOST_BLOCKS];
        final int[] cutDay = new int[MOST_BLOCKS];
        final int[] spoiltDay = new int[MOST_BLOCKS];

        void copyFrom(Blocks other) {
            number = other.number;
            copy(other.kind, kind);
            copy(other.grams, grams);
            copy(other.room, room);
            copy(other.place, place);
            copy(other.cutDay, cutDay);
            copy(other.spoiltDay, spoiltDay);
        }

        private void copy(int[] from, int[] to) {
            System.arraycopy(from, 0, to, 0, number);
        }

        boolean has(int block) {
            return block >= 0 && block < number;
        }

        boolean isSalt(int block) {
            return block >= 0 && block < number && kind[block] == SALT;
        }

        boolean isInRoom(int block) {
            return has(block) && room[block] != NONE;
        }

        void leave(int block) {
            room[block] = NONE;
            place[block] = NONE;
        }
    }

    /** All that an image keeps. */
    private static final class Store {
        int today;
        int cutGrams;
        int soldGrams;
        int meltedGrams;
        int goneGrams;
        final Rooms rooms = new Rooms();
        final Blocks blocks = new Blocks();

        void copyFrom(Store other) {
            today = other.today;
            cutGrams = other.cutGrams;
            soldGrams = other.soldGrams;
            meltedGrams = other.meltedGrams;
            goneGrams = other.goneGrams;
            rooms.copyFrom(other.rooms);
            blocks.copyFrom(other.blocks);
        }

        int cutBlock(int room, int place, int kind, int grams) {
            int block = blocks.number;
            if (block >= MOST_BLOCKS) {
                return TOO_MANY;
            }
            blocks.kind[block] = kind;
            blocks.grams[block] = grams;
            blocks.room[block] = room;
            blocks.place[block] = place;
            blocks.cutDay[block] = today;
            blocks.spoiltDay[block] = NONE;
            blocks.number++;
            layDown(block);
            cutGrams += grams;
            return block;
        }

        /** Puts a block where it knows that it lies. */
        void layDown(int block) {
            int room = blocks.room[block];
            rooms.fill(room, blocks.place[block], FIRST_BLOCK + block);
            rooms.salts[room] += blocks.isSalt(block) ? 1 : 0;
        }

        /** Empties the place of a block, which still knows where it lay: it can be laid down again. */
        void liftUp(int block) {
            int room = blocks.room[block];
            rooms.fill(room, blocks.place[block], NOTHING);
            rooms.salts[room] -= blocks.isSalt(block) ? 1 : 0;
        }

        int blocksIn(int room) {
            int found = 0;
            for (int block = 0; block < blocks.number; block++) {
                if (blocks.room[block] == room) {
                    found++;
                }
            }
            return found;
        }

        int blocksInRooms() {
            return blocks.number - blocksIn(NONE);
        }

        int gramsIn(int room) {
            int grams = 0;
            for (int block = 0; block < blocks.number; block++) {
                if (blocks.room[block] == room) {
                    grams += blocks.grams[block];
                }
            }
            return grams;
        }

        int gramsInRooms() {
            int grams = 0;
            for (int room = 0; room < rooms.number; room++) {
                grams += gramsIn(room);
            }
            return grams;
        }
    }

    /** What lies at the six sides of a place. */
    private static final class Sides {
        int air;
        int straw;
        boolean salt;

        void look(Store store, int room, int place) {
            air = 0;
            straw = 0;
            salt = false;
            Rooms rooms = store.rooms;
            for (int side = 0; side < SIDES; side++) {
                int other = beside(side, place, rooms.width[room], rooms.rows[room], rooms.layers[room]);
                int what = rooms.at(room, other);
                if (what == STRAW) {
                    straw++;
                } else if (what < FIRST_BLOCK) {
                    air++;
                } else if (store.blocks.isSalt(what - FIRST_BLOCK)) {
                    salt = true;
                }
            }
        }
    }

    /** How ice melts: warmth, losses, and what a day does. */
    private static final class Melting {
        int part = 40;
        int wet = 200;
        int least = 1000;
        final Sides sides = new Sides();
        /** By the latest weigh(): all losses of a day, before any of them changes how things lie. */
        private final int[] losses = new int[MOST_BLOCKS];
        private final int[] warmths = new int[MOST_ROOMS];

        int warmthIn(Store store, int room, int tenths) {
            int salts = store.rooms.salts[room];
            int outer = room;
            // an inner room is in one with a lower number, so this chain is shorter than the rooms are many
            for (int i = 0; i < MOST_ROOMS && store.rooms.kind[outer] == INNER; i++) {
                outer = store.rooms.in[outer];
                if (!store.rooms.has(outer)) {
                    return 0;
                }
                salts += store.rooms.salts[outer];
            }
            return withoutSalt(store.rooms.kind[outer], tenths) - 2 * salts;
        }

        static int withoutSalt(int kind, int tenths) {
            switch (kind) {
                case CELLAR:
                case PIT: return (tenths + 80) / 2;
                case BOAT: return tenths + 10;
                case CART: return tenths + 30;
                default: return tenths;
            }
        }

        /** Of a block that lies in a room. */
        int lossOf(Store store, int block, int warmth) {
            int room = store.blocks.room[block];
            int place = store.blocks.place[block];
            int loss = store.rooms.standsInWater(room, place) ? wet : 0;
            if (warmth > 0) {
                int grams = rateOf(store.blocks.kind[block]) * warmth;
                sides.look(store, room, place);
                loss += sides.air * grams + sides.straw * (grams * part / 100);
            }
            return Math.min(loss, store.blocks.grams[block]);
        }

        int leftOf(int grams) {
            return grams < least ? 0 : grams;
        }

        int lossWeighed(int block) {
            return within(block, 0, MOST_BLOCKS - 1) ? losses[block] : 0;
        }

        /** All losses of a day on which it is so many tenths outside. */
        void weigh(Store store, int tenths) {
            for (int room = 0; room < store.rooms.number; room++) {
                warmths[room] = warmthIn(store, room, tenths);
            }
            for (int block = 0; block < store.blocks.number; block++) {
                boolean lies = store.blocks.isInRoom(block);
                losses[block] = lies ? lossOf(store, block, warmths[store.blocks.room[block]]) : 0;
            }
        }

        /** The day whose losses were weighed goes by: how many grams melted. */
        int passDay(Store store) {
            // all of them first: a block that is gone would no longer lie at another one's side
            for (int block = 0; block < store.blocks.number; block++) {
                spoil(store, block);
            }
            int melted = 0;
            for (int block = 0; block < store.blocks.number; block++) {
                if (store.blocks.isInRoom(block)) {
                    lose(store, block);
                    melted += losses[block];
                }
            }
            store.meltedGrams += melted;
            store.today++;
            return melted;
        }

        private void spoil(Store store, int block) {
            Blocks blocks = store.blocks;
            if (blocks.kind[block] != CLEAR || !blocks.isInRoom(block) || blocks.spoiltDay[block] != NONE) {
                return;
            }
            sides.look(store, blocks.room[block], blocks.place[block]);
            if (sides.salt || store.rooms.standsInWater(blocks.room[block], blocks.place[block])) {
                blocks.spoiltDay[block] = store.today;
            }
        }

        private void lose(Store store, int block) {
            Blocks blocks = store.blocks;
            int room = blocks.room[block];
            int place = blocks.place[block];
            if (store.rooms.isDrained(room, place)) {
                store.rooms.led[room] += losses[block];
            } else {
                store.rooms.standing[room] += losses[block];
            }
            int left = blocks.grams[block] - losses[block];
            blocks.grams[block] = leftOf(left);
            if (left < least) {
                store.goneGrams += left;
                store.liftUp(block);
                blocks.leave(block);
            }
        }

        /** THE NEXT of a room, by what lies in its places. */
        int nearest(Store store, int room, int tenths) {
            int warmth = warmthIn(store, room, tenths);
            int found = NONE;
            int greatest = 0;
            int foundLayer = 0;
            int floor = store.rooms.floor[room];
            for (int layer = 0; layer < store.rooms.layers[room]; layer++) {
                for (int place = layer * floor; place < (layer + 1) * floor; place++) {
                    if (store.rooms.isFreeBlock(room, place)) {
                        int block = store.rooms.at(room, place) - FIRST_BLOCK;
                        int loss = lossOf(store, block, warmth);
                        if (found == NONE || loss > greatest || loss == greatest && layer > foundLayer) {
                            found = block;
                            greatest = loss;
                            foundLayer = layer;
                        }
                    }
                }
            }
            return found;
        }

        int airSidesIn(Store store, int room) {
            int air = 0;
            int size = store.rooms.size[room];
            for (int place = 0; place < size; place++) {
                if (store.rooms.at(room, place) >= FIRST_BLOCK) {
                    sides.look(store, room, place);
                    air += sides.air;
                }
            }
            return air;
        }
    }

    /** THE WAY. */
    private static final class Journey {
        static final int MOST_STRETCHES = 6;
        static final int MOST_DAYS = 20;

        int stretches;
        private final int[] kind = new int[MOST_STRETCHES];
        private final int[] days = new int[MOST_STRETCHES];

        int stretch(int itsKind, int itsDays) {
            kind[stretches] = itsKind;
            days[stretches] = itsDays;
            stretches++;
            return stretches;
        }

        int daysInAll() {
            int all = 0;
            for (int i = 0; i < stretches; i++) {
                all += days[i];
            }
            return all;
        }

        /** What is left at its end of a block that sets out today. */
        int leaves(int blockKind, int grams, int today, Calendar calendar, int least) {
            int left = grams;
            int day = today;
            for (int i = 0; i < stretches; i++) {
                for (int n = 0; n < days[i]; n++) {
                    int warmth = Melting.withoutSalt(kind[i], calendar.tenthsOf(day));
                    int loss = warmth > 0 ? SIDES * rateOf(blockKind) * warmth : 0;
                    left -= Math.min(loss, left);
                    if (left < least) {
                        left = 0;
                    }
                    day++;
                }
            }
            return left;
        }
    }

    /** What the latest foretell() saw. */
    private static final class Forecast {
        private static final int COLUMNS = MOST_ROOMS + 1;

        int days;
        int emptyDay;
        private int rooms;
        /** Of each day's end a row: all grams, then those of each room. */
        private final int[] grams = new int[(LAST_DAY + 1) * COLUMNS];

        void begin(Store store) {
            days = 0;
            rooms = store.rooms.number;
            emptyDay = store.blocksInRooms() == 0 ? store.today - 1 : NO_SUCH;
            writeRow(store);
        }

        void note(Store store) {
            if (days >= LAST_DAY) {
                return;
            }
            days++;
            writeRow(store);
            if (emptyDay == NO_SUCH && store.blocksInRooms() == 0) {
                emptyDay = store.today - 1;
            }
        }

        private void writeRow(Store store) {
            int all = days * COLUMNS;
            grams[all] = 0;
            for (int room = 0; room < rooms; room++) {
                grams[all + 1 + room] = store.gramsIn(room);
                grams[all] += grams[all + 1 + room];
            }
        }

        int gramsBehind(int room, int i) {
            boolean isThere = within(room, NONE, rooms - 1) && within(i, 0, days);
            return isThere ? grams[i * COLUMNS + 1 + room] : BAD_NUMBER;
        }
    }

    /** THE BOOK of the latest day, as it was written and as it reads now. */
    private static final class Book {
        static final int NUMBERS = 6;

        int lines;
        boolean written;
        private final int[] asWritten = new int[MOST_BLOCKS * NUMBERS];
        private final int[] asItReads = new int[MOST_BLOCKS * NUMBERS];

        void empty() {
            lines = 0;
            written = false;
        }

        /** Ahead of the day, while all still lies as at its beginning. */
        void write(Store store, Melting melting) {
            lines = 0;
            written = true;
            for (int block = 0; block < store.blocks.number; block++) {
                if (melting.lossWeighed(block) > 0) {
                    writeLine(store, block, melting);
                }
            }
            System.arraycopy(asWritten, 0, asItReads, 0, lines * NUMBERS);
        }

        private void writeLine(Store store, int block, Melting melting) {
            int first = lines * NUMBERS;
            int loss = melting.lossWeighed(block);
            asWritten[first] = block;
            asWritten[first + 1] = store.blocks.room[block];
            asWritten[first + 2] = store.blocks.place[block];
            asWritten[first + 3] = store.blocks.grams[block];
            asWritten[first + 4] = loss;
            asWritten[first + 5] = melting.leftOf(store.blocks.grams[block] - loss);
            lines++;
        }

        int number(int i, int what) {
            return asItReads[i * NUMBERS + what];
        }

        void change(int i, int what, int mask) {
            asItReads[i * NUMBERS + what] ^= mask;
        }

        int firstWrong() {
            for (int i = 0; i < lines * NUMBERS; i++) {
                if (asItReads[i] != asWritten[i]) {
                    return i / NUMBERS;
                }
            }
            return NONE;
        }
    }

    /** The weights and kinds that are told for pack(). */
    private static final class Heap {
        static final int MOST = 30;

        int number;
        final int[] kind = new int[MOST];
        final int[] grams = new int[MOST];

        int add(int itsKind, int itsGrams) {
            kind[number] = itsKind;
            grams[number] = itsGrams;
            number++;
            return number;
        }
    }

    /** Finds the places for a heap in a bare room. */
    private static final class Packer {
        private static final int MOST_TRIED = 8;

        private int width;
        private int rows;
        private int layers;
        private int size;
        private int mostTouching;
        private final boolean[] chosen = new boolean[MOST_PLACES];
        private final boolean[] best = new boolean[MOST_PLACES];

        boolean isChosen(int place) {
            return within(place, 0, MOST_PLACES - 1) && best[place];
        }

        void choose(Rooms rooms, int room, int number) {
            this.width = rooms.width[room];
            this.rows = rooms.rows[room];
            layers = rooms.layers[room];
            size = Math.min(rooms.size[room], MOST_PLACES);
            for (int place = 0; place < size; place++) {
                chosen[place] = false;
            }
            if (number <= MOST_TRIED && width <= 3 && this.rows <= 3 && layers <= 2) {
                mostTouching = -1;
                tryFrom(0, number, 0);
            } else {
                chooseOneByOne(number);
                keepChosen();
            }
        }

        /**
         * Goes through all ways to choose the places that are left to choose, lower ones first; the fewest sides
         * are in air where the most pairs of blocks touch. At most MOST_TRIED calls deep, one for each place.
         */
        private void tryFrom(int from, int left, int touching) {
            // a place more touches at most three lower ones: then nothing better can come of this
            if (left > MOST_TRIED || touching + 3 * left <= mostTouching) {
                return;
            }
            if (left <= 0) {
                mostTouching = touching;
                keepChosen();
                return;
            }
            for (int place = from; place <= size - left; place++) {
                if (bears(place)) {
                    chosen[place] = true;
                    tryFrom(place + 1, left - 1, touching + sidesShut(place));
                    chosen[place] = false;
                }
            }
        }

        private void chooseOneByOne(int number) {
            for (int i = 0; i < number; i++) {
                int found = NONE;
                int mostShut = -1;
                for (int place = 0; place < size; place++) {
                    if (!chosen[place] && bears(place) && sidesShut(place) > mostShut) {
                        found = place;
                        mostShut = sidesShut(place);
                    }
                }
                if (found != NONE) {
                    chosen[found] = true;
                }
            }
        }

        private void keepChosen() {
            for (int place = 0; place < size; place++) {
                best[place] = chosen[place];
            }
        }

        private boolean bears(int place) {
            int beneath = place - width * rows;
            return beneath < 0 || chosen[beneath];
        }

        private int sidesShut(int place) {
            int shut = 0;
            for (int side = 0; side < SIDES; side++) {
                int other = beside(side, place, width, rows, layers);
                if (within(other, 0, size - 1) && chosen[other]) {
                    shut++;
                }
            }
            return shut;
        }
    }
}
