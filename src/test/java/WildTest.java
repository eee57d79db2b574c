import java.util.Random;

/** Wild arguments in any state: no call throws, refused ones change nothing, and all grams are somewhere. */
public final class WildTest {
    private static final int[] EDGES = {Integer.MIN_VALUE, Integer.MIN_VALUE + 1, -1000, -7, -2, -1, 0, 1, 2, 3, 4, 5, 6, 7, 8,
        9, 10, 11, 12, 29, 30, 35, 36, 99, 100, 179, 180, 199, 200, 299, 300, 301, 999, 1000, 5000, 10000, 1000000, 100000000,
        0x41200000, 0x42700000, 0x42700001, 0x7F800000, 0x7FC00000, 0xC2700000, Integer.MAX_VALUE - 1, Integer.MAX_VALUE};

    private static final Due DUE = new Due();
    private static Random random;

    public static void main(String[] args) {
        for (int seed = 0; seed < 300; seed++) {
            random = new Random(seed);
            run(seed);
        }
        DUE.end();
    }

    private static int wild() {
        int way = random.nextInt(4);
        return way == 0 ? EDGES[random.nextInt(EDGES.length)] : way == 1 ? random.nextInt() : random.nextInt(9) - 1;
    }

    private static void run(int seed) {
        IceTrade x = new IceTrade();
        if (seed % 3 > 0) {
            for (int r = 0; r < 3; r++) {
                Due.laidRoom(x, random.nextInt(2) * 5, 2 + random.nextInt(5), 1 + random.nextInt(6), 1 + random.nextInt(5));
                for (int p = 0; p < 100; p++) {
                    x.cut(r, p, random.nextInt(3), 1000 + random.nextInt(20000));
                }
            }
        }
        for (int i = 0; i < 512; i++) {
            int call = random.nextInt(34);
            long before = trace(x);
            int got = call(x, call);
            if (got < 0 && x.status() == got && call < 20) {
                DUE.due("seed " + seed + " call " + call + " was refused and changed", trace(x), before);
            }
            int somewhere = x.count(2) + x.count(3) + x.count(4) + x.count(5);
            DUE.due("seed " + seed + " call " + call + ": grams somewhere", somewhere, x.count(1));
            DUE.due("seed " + seed + " call " + call + ": melted", x.count(6) + x.count(7), x.count(4));
        }
    }

    private static long trace(IceTrade x) {
        long t = x.last() * 31L + x.check();
        for (int what = 0; what <= 15; what++) {
            t = t * 1000003 + x.count(what);
        }
        for (int r = 0; r < x.count(10); r++) {
            for (int what = 0; what <= 11; what++) {
                t = t * 1000003 + x.rooms(r, what);
            }
            t = t * 1000003 + x.next(r);
        }
        return t;
    }

    /** Those below 20, but for home(), may be refused; send() is not among them, as what it was short of is told. */
    private static int call(IceTrade x, int call) {
        int a = wild(), b = wild(), c = wild();
        switch (call) {
            case 0: return x.room(a, b, c, wild(), random.nextBoolean() ? -1 : wild());
            case 1: return x.lay(a, b, c);
            case 2: return x.tear(a, b, c);
            case 3: return x.cut(a, b, c, wild());
            case 4: return x.put(a, b, c);
            case 5: return x.clear(a, b);
            case 6: return x.warm(a, b);
            case 7: return x.terms(a, b, c);
            case 8: return x.day();
            case 9: return x.take(a, b);
            case 10: return x.way(a, b);
            case 11: return x.heap(a, b);
            case 12: return x.price(a, b);
            case 13: return x.foretell(a, b);
            case 14: return x.pack(a);
            case 15: return x.image(a);
            case 16: return x.back(a);
            case 17: return x.alter(a, b, c);
            case 18: return x.home();
            case 19: return x.heap(random.nextInt(3), 1000 + random.nextInt(1000));
            case 20: return x.send(a, b);
            case 21: return x.rooms(a, b);
            case 22: return x.place(a, b);
            case 23: return x.block(a, b);
            case 24: return x.tenths(a);
            case 25: return x.count(a);
            case 26: return x.next(a);
            case 27: return x.comes(a, b);
            case 28: return x.sent(a);
            case 29: return x.list(a);
            case 30: return x.foretold(a, b);
            case 31: return x.last();
            case 32: return x.line(a, b);
            default: return x.check();
        }
    }
}
