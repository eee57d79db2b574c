import java.util.Random;

/** Random runs of 512 calls, held against the Oracle call by call. The seeds are fixed. */
public final class RandomRunsTest {
    private static final int RUNS = 700;
    /** Runs behind those with rooms of up to 6 by 6 by 5; some of them come to the last of the 300 blocks. */
    private static final int LARGE_RUNS = 200;
    private static final String[] CALLS = {"room", "rooms", "lay", "lay", "lay", "tear", "cut", "cut", "cut", "cut", "cut",
        "put", "put", "clear", "place", "block", "block", "warm", "warm", "tenths", "terms", "day", "day", "count", "next",
        "take", "way", "home", "comes", "send", "sent", "list", "price", "foretell", "foretold", "last", "heap", "heap",
        "pack", "image", "back", "line", "alter", "check"};

    private final Due due = new Due();
    private Random random;
    private IceTrade x;
    private Oracle o;

    public static void main(String[] args) {
        RandomRunsTest test = new RandomRunsTest();
        for (int seed = 0; seed < RUNS + LARGE_RUNS; seed++) {
            test.run(seed);
        }
        test.due.end();
    }

    private void run(int seed) {
        random = new Random(seed);
        x = new IceTrade();
        o = new Oracle();
        furnish(seed);
        for (int i = 0; i < 300; i++) {
            String call = CALLS[random.nextInt(CALLS.length)];
            // time and images would end a run early if they came too often
            if ((call.equals("terms") || call.equals("back") || call.equals("home")) && random.nextInt(3) != 0) continue;
            oneCall(seed, call);
            due.due("seed " + seed + " status behind " + call, x.status(), o.status());
        }
        for (int b = -1; b <= x.count(8); b++) {
            for (int what = 0; what < 10; what++) {
                due.due("seed " + seed + " block " + b + ", " + what, x.block(b, what), o.block(b, what));
            }
        }
        for (int r = 0; r < x.count(10); r++) {
            for (int p = 0; p < 180; p++) {
                due.due("seed " + seed + " place " + r + ", " + p, x.place(r, p), o.place(r, p));
            }
        }
    }

    /** Some rooms that are laid and mostly full, so that the calls find something. */
    private void furnish(int seed) {
        int rooms = (isLarge(seed) ? 2 : 1) + random.nextInt(4);
        for (int r = 0; r < rooms; r++) {
            int kind = random.nextInt(6);
            int in = kind == 2 ? r - 1 : -1;
            int least = isLarge(seed) ? 3 : 1, more = isLarge(seed) ? 4 : 3;
            int width = least + random.nextInt(more), rows = least + random.nextInt(more);
            int layers = least + random.nextInt(3);
            due.due("seed " + seed + " room", x.room(kind, width, rows, layers, in), o.room(kind, width, rows, layers, in));
        }
        for (int r = 0; r < x.count(10); r++) {
            for (int z = 0; z < x.rooms(r, 3); z++) {
                for (int y = 0; y < x.rooms(r, 2); y++) {
                    due.due("seed " + seed + " lay", x.lay(r, z, y), o.lay(r, z, y));
                }
            }
            int size = x.rooms(r, 1) * x.rooms(r, 2) * x.rooms(r, 3);
            int full = isLarge(seed) ? 4 : random.nextInt(4);
            for (int p = 0; p < size; p++) {
                int fill = random.nextInt(10);
                if (fill < 2 * full) {
                    int kind = random.nextInt(3), grams = 1000 + random.nextInt(random.nextInt(20) == 0 ? 999001 : 30000);
                    due.due("seed " + seed + " cut", x.cut(r, p, kind, grams), o.cut(r, p, kind, grams));
                } else if (fill == 8 || full > 0 && fill == 9) {
                    int what = random.nextInt(3) == 0 ? 1 : 0;
                    due.due("seed " + seed + " put", x.put(r, p, what), o.put(r, p, what));
                }
            }
        }
    }

    private static boolean isLarge(int seed) { return seed >= RUNS; }

    private int some(int least, int most) {
        int odd = random.nextInt(40);
        if (odd == 0) return least - 1;
        if (odd == 1) return most + 1;
        if (odd == 2) return random.nextInt();
        return least + random.nextInt(most - least + 1);
    }

    private int someRoom() { return some(0, Math.max(0, x.count(10) - 1)); }
    private int someGrams() { return random.nextInt(10) == 0 ? some(1000, 1000000) : some(1000, 20000); }
    private int someBlock() { return some(0, Math.max(0, x.count(8) - 1)); }

    private int somePlace(int room) {
        int size = x.rooms(room, 0) < 0 ? 9 : x.rooms(room, 1) * x.rooms(room, 2) * x.rooms(room, 3);
        return some(0, size - 1);
    }

    private int someBits() {
        switch (random.nextInt(12)) {
            case 0: return random.nextInt();
            case 1: return 0x7FC00000 | random.nextInt(0x400000);
            case 2: return 0x7F800001 | (random.nextBoolean() ? 0x80000000 : 0);
            case 3: return Float.floatToRawIntBits(random.nextBoolean() ? 60.0f : -60.0f) + random.nextInt(3) - 1;
            case 4: return random.nextInt(0x1000000) | (random.nextBoolean() ? 0x80000000 : 0);
            case 5: return Float.floatToRawIntBits((random.nextInt(1201) - 600) / 10.0f);
            default: return Float.floatToRawIntBits((random.nextInt(700) - 200) / 10.0f);
        }
    }

    private void oneCall(int seed, String call) {
        int r = someRoom();
        int[] a = new int[5];
        long got, want;
        switch (call) {
            case "room":
                a[0] = some(0, 5); a[1] = some(1, 6); a[2] = some(1, 6); a[3] = some(1, 5);
                a[4] = a[0] == 2 || random.nextInt(20) == 0 ? someRoom() : -1;
                got = x.room(a[0], a[1], a[2], a[3], a[4]); want = o.room(a[0], a[1], a[2], a[3], a[4]);
                break;
            case "rooms": a[0] = some(0, 11); got = x.rooms(r, a[0]); want = o.rooms(r, a[0]); break;
            case "lay": a[0] = some(0, 2); a[1] = some(0, 2); got = x.lay(r, a[0], a[1]); want = o.lay(r, a[0], a[1]); break;
            case "tear": a[0] = some(0, 2); a[1] = some(0, 2); got = x.tear(r, a[0], a[1]); want = o.tear(r, a[0], a[1]); break;
            case "cut":
                a[0] = somePlace(r); a[1] = some(0, 2); a[2] = someGrams();
                got = x.cut(r, a[0], a[1], a[2]); want = o.cut(r, a[0], a[1], a[2]);
                break;
            case "put": a[0] = somePlace(r); a[1] = some(0, 1); got = x.put(r, a[0], a[1]); want = o.put(r, a[0], a[1]); break;
            case "clear": a[0] = somePlace(r); got = x.clear(r, a[0]); want = o.clear(r, a[0]); break;
            case "place": a[0] = somePlace(r); got = x.place(r, a[0]); want = o.place(r, a[0]); break;
            case "block": a[0] = someBlock(); a[1] = some(0, 9); got = x.block(a[0], a[1]); want = o.block(a[0], a[1]); break;
            case "warm":
                a[0] = random.nextInt(3) == 0 ? some(0, 199) : some(x.count(0), x.count(0) + 3); a[1] = someBits();
                got = x.warm(a[0], a[1]); want = o.warm(a[0], a[1]);
                break;
            case "tenths": a[0] = some(0, 199); got = x.tenths(a[0]); want = o.tenths(a[0]); break;
            case "terms":
                a[0] = some(0, 100); a[1] = some(0, random.nextBoolean() ? 400 : 10000);
                a[2] = some(1, random.nextInt(5) == 0 ? 1000000 : 3000);
                got = x.terms(a[0], a[1], a[2]); want = o.terms(a[0], a[1], a[2]);
                break;
            case "day": got = x.day(); want = o.day(); break;
            case "count": a[0] = some(0, 15); got = x.count(a[0]); want = o.count(a[0]); break;
            case "next": got = x.next(r); want = o.next(r); break;
            case "take": a[0] = some(1, random.nextInt(10) == 0 ? 300 : 3); got = x.take(r, a[0]); want = o.take(r, a[0]); break;
            case "way": a[0] = some(3, 4); a[1] = some(0, random.nextInt(4) == 0 ? 20 : 2); got = x.way(a[0], a[1]); want = o.way(a[0], a[1]); break;
            case "home": got = x.home(); want = o.home(); break;
            case "comes": a[0] = some(0, random.nextInt(9) == 0 ? 300 : 6); got = x.comes(r, a[0]); want = o.comes(r, a[0]); break;
            case "send":
                a[0] = random.nextInt(9) == 0 ? some(1, 100000000) : some(1, 40000);
                got = x.send(r, a[0]); want = o.send(r, a[0]);
                break;
            case "sent": a[0] = some(0, 2); got = x.sent(a[0]); want = o.sent(a[0]); break;
            case "list": a[0] = some(0, 4); got = x.list(a[0]); want = o.list(a[0]); break;
            case "price": a[0] = some(0, 2); a[1] = some(0, 5000); got = x.price(a[0], a[1]); want = o.price(a[0], a[1]); break;
            case "foretell":
                a[0] = random.nextInt(6) == 0 ? some(1, 200) : some(1, 9); a[1] = random.nextBoolean() ? some(0, 199) : some(0, 3);
                got = x.foretell(a[0], a[1]); want = o.foretell(a[0], a[1]);
                for (int i = 0; i <= want; i++) {
                    due.due("seed " + seed + " foretold", x.foretold(-1, i), o.foretold(-1, i));
                }
                break;
            case "foretold": a[0] = random.nextInt(3) == 0 ? -1 : r; a[1] = some(0, 9); got = x.foretold(a[0], a[1]); want = o.foretold(a[0], a[1]); break;
            case "last": got = x.last(); want = o.last(); break;
            case "heap": a[0] = some(0, 2); a[1] = someGrams(); got = x.heap(a[0], a[1]); want = o.heap(a[0], a[1]); break;
            case "pack":
                if (random.nextInt(3) > 0 && random.nextInt(1 + Math.max(0, x.rooms(r, 6))) == 0) empty(r);
                got = x.pack(r); want = o.pack(r);
                break;
            case "image": a[0] = some(0, 3); got = x.image(a[0]); want = o.image(a[0]); break;
            case "back": a[0] = some(0, 3); got = x.back(a[0]); want = o.back(a[0]); break;
            case "line": a[0] = some(0, 9); a[1] = some(0, 5); got = x.line(a[0], a[1]); want = o.line(a[0], a[1]); break;
            case "alter":
                a[0] = some(0, 9); a[1] = some(0, 5); a[2] = some(0, 5);
                got = x.alter(a[0], a[1], a[2]); want = o.alter(a[0], a[1], a[2]);
                break;
            default: got = x.check(); want = o.check(); break;
        }
        due.due("seed " + seed + " " + call + " room " + r + " " + java.util.Arrays.toString(a), got, want);
    }

    /** Makes a room ready for pack(). */
    private void empty(int r) {
        int blocks = x.rooms(r, 6);
        if (blocks > 0) {
            due.due("take all", x.take(r, blocks), o.take(r, blocks));
        }
        for (int p = 179; p >= 0; p--) {
            due.due("clear all", x.clear(r, p), o.clear(r, p));
        }
        for (int z = 0; z < 5; z++) {
            for (int y = 0; y < 6; y++) {
                due.due("lay all", x.lay(r, z, y), o.lay(r, z, y));
            }
        }
    }
}
