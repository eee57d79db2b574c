import java.util.ArrayList;
import java.util.Arrays;
import java.util.HashMap;
import java.util.List;
import java.util.Map;
import java.util.TreeSet;

/**
 * The document once more, written for its reader and not for speed, and by other means than the class: whole objects
 * are copied, places are points, and ways to pack are compared as lists. Random runs hold the class against it.
 */
final class Oracle {
    static final class Room implements Cloneable {
        int kind, width, rows, layers, in, led, standing;
        TreeSet<Integer> laid = new TreeSet<>();
        Map<Integer, Integer> things = new HashMap<>();

        Room copy() {
            try {
                Room r = (Room) clone();
                r.laid = new TreeSet<>(laid);
                r.things = new HashMap<>(things);
                return r;
            } catch (CloneNotSupportedException e) {
                throw new IllegalStateException(e);
            }
        }

        int what(int x, int y, int z) {
            if (x < 0 || y < 0 || z < 0 || x >= width || y >= rows || z >= layers) return 0;
            return things.getOrDefault(x + width * (y + rows * z), 0);
        }

        int x(int p) { return p % width; }
        int y(int p) { return p / width % rows; }
        int z(int p) { return p / width / rows; }
        int size() { return width * rows * layers; }

        int[] around(int p) {
            int x = x(p), y = y(p), z = z(p);
            return new int[] {what(x - 1, y, z), what(x + 1, y, z), what(x, y - 1, z), what(x, y + 1, z),
                what(x, y, z - 1), what(x, y, z + 1)};
        }

        boolean floorDrain() {
            for (int p = 0; p < width * rows; p++) if (things.getOrDefault(p, 0) == 2) return true;
            return false;
        }
    }

    static final class Block implements Cloneable {
        int kind, grams, room, place, cut, spoilt = -1;

        Block copy() {
            try {
                return (Block) clone();
            } catch (CloneNotSupportedException e) {
                throw new IllegalStateException(e);
            }
        }
    }

    static final class World {
        int today, cut, sold, melted, gone;
        List<Room> rooms = new ArrayList<>();
        List<Block> blocks = new ArrayList<>();

        World copy() {
            World w = new World();
            w.today = today; w.cut = cut; w.sold = sold; w.melted = melted; w.gone = gone;
            for (Room r : rooms) w.rooms.add(r.copy());
            for (Block b : blocks) w.blocks.add(b.copy());
            return w;
        }

        int inRooms() {
            int n = 0;
            for (Block b : blocks) if (b.room >= 0) n++;
            return n;
        }

        int grams(int room) {
            int n = 0;
            for (Block b : blocks) if (b.room >= 0 && (room < 0 || b.room == room)) n += b.grams;
            return n;
        }
    }

    World w = new World();
    World[] images = new World[4];
    Float[] told = new Float[200];
    int part = 40, wet = 200, least = 1000, status, shortBy, came, bill;
    int[] price = new int[3];
    List<int[]> way = new ArrayList<>();
    List<int[]> heap = new ArrayList<>();
    List<Integer> list = new ArrayList<>();
    List<int[]> lines = new ArrayList<>();
    List<int[]> right;
    List<int[]> foretold;
    int last = -1;

    private int say(int n) { status = Math.min(n, 0); return n; }
    private boolean noRoom(int r) { return r < 0 || r >= w.rooms.size(); }

    float outside(int day) {
        for (int d = Math.min(day, 199); d >= 0; d--) if (told[d] != null) return told[d];
        return 0.0f;
    }

    int outsideTenths(int day) { return (int) (outside(day) * 10.0f); }

    int warmth(World w, int room, int tenths) {
        Room r = w.rooms.get(room);
        int warmth = r.kind == 2 ? warmth(w, r.in, tenths)
            : r.kind == 1 || r.kind == 5 ? (tenths + 80) / 2
            : r.kind == 3 ? tenths + 10 : r.kind == 4 ? tenths + 30 : tenths;
        for (int t : r.things.values()) if (t >= 10 && w.blocks.get(t - 10).kind == 2) warmth -= 2;
        return warmth;
    }

    int[] sides(World w, Block b) {
        int[] s = new int[3];
        for (int t : w.rooms.get(b.room).around(b.place)) s[t >= 10 ? 2 : t == 1 ? 1 : 0]++;
        return s;
    }

    boolean inWater(World w, Block b) {
        Room r = w.rooms.get(b.room);
        return r.kind == 5 && r.z(b.place) == 0 && !r.floorDrain();
    }

    int loss(World w, Block b, int tenths) {
        int grams = (b.kind == 2 ? 5 : 3) * Math.max(0, warmth(w, b.room, tenths));
        int[] s = sides(w, b);
        return Math.min(b.grams, s[0] * grams + s[1] * (grams * part / 100) + (inWater(w, b) ? wet : 0));
    }

    boolean free(World w, Block b) {
        Room r = w.rooms.get(b.room);
        return r.what(r.x(b.place), r.y(b.place), r.z(b.place) + 1) < 10;
    }

    int pass(World w, int tenths, List<int[]> book) {
        World before = w.copy();
        int melted = 0;
        for (int i = 0; i < w.blocks.size(); i++) {
            Block was = before.blocks.get(i), b = w.blocks.get(i);
            if (was.room < 0) continue;
            Room r = before.rooms.get(was.room), now = w.rooms.get(was.room);
            int loss = loss(before, was, tenths);
            boolean spoils = inWater(before, was);
            for (int t : r.around(was.place)) if (t >= 10 && before.blocks.get(t - 10).kind == 2) spoils = true;
            if (b.kind == 1 && b.spoilt < 0 && spoils) b.spoilt = w.today;
            boolean led = r.floorDrain();
            for (int z = 0; z < r.z(was.place); z++) if (r.what(r.x(was.place), r.y(was.place), z) == 2) led = true;
            if (led) now.led += loss; else now.standing += loss;
            melted += loss;
            b.grams -= loss;
            if (b.grams < least) {
                w.gone += b.grams;
                b.grams = 0;
                now.things.remove(b.place);
                b.room = b.place = -1;
            }
            if (loss > 0 && book != null) book.add(new int[] {i, was.room, was.place, was.grams, loss, b.grams});
        }
        w.melted += melted;
        w.today++;
        return melted;
    }

    int theNext(World w, int room) {
        int best = -1;
        long bestKey = 0;
        for (int i = 0; i < w.blocks.size(); i++) {
            Block b = w.blocks.get(i);
            if (b.room != room || !free(w, b)) continue;
            long key = (loss(w, b, outsideTenths(w.today)) * 10L + w.rooms.get(room).z(b.place)) * 1000 + 999 - b.place;
            if (best < 0 || key > bestKey) {
                best = i;
                bestKey = key;
            }
        }
        return best;
    }

    int lift(World w, int room) {
        int i = theNext(w, room);
        if (i < 0) return -1;
        Block b = w.blocks.get(i);
        w.rooms.get(room).things.remove(b.place);
        b.room = b.place = -1;
        w.sold += b.grams;
        return i;
    }

    int arrives(World w, Block b) {
        int left = b.grams, day = w.today;
        for (int[] s : way) {
            for (int n = 0; n < s[1]; n++, day++) {
                int warmth = outsideTenths(day) + (s[0] == 3 ? 10 : 30);
                left -= Math.min(left, 6 * (b.kind == 2 ? 5 : 3) * Math.max(0, warmth));
                if (left < least) left = 0;
            }
        }
        return left;
    }

    int room(int kind, int width, int rows, int layers, int in) {
        if (kind < 0 || kind > 5 || width < 1 || width > 6 || rows < 1 || rows > 6 || layers < 1 || layers > 5
            || (kind == 2 ? noRoom(in) : in != -1)) return say(-1);
        if (w.rooms.size() == 8) return say(-6);
        Room r = new Room();
        r.kind = kind; r.width = width; r.rows = rows; r.layers = layers; r.in = in;
        w.rooms.add(r);
        return say(w.rooms.size() - 1);
    }

    int rooms(int room, int what) {
        if (what < 0 || what > 11) return -1;
        if (noRoom(room)) return -2;
        Room r = w.rooms.get(room);
        int blocks = 0, air = 0, free = 0;
        for (Block b : w.blocks) {
            if (b.room != room) continue;
            blocks++;
            air += sides(w, b)[0];
            if (free(w, b)) free++;
        }
        return new int[] {r.kind, r.width, r.rows, r.layers, r.in, warmth(w, room, outsideTenths(w.today)), blocks,
            w.grams(room), r.led, r.standing, air, free}[what];
    }

    int lay(int room, int layer, int row) {
        if (noRoom(room)) return say(-2);
        Room r = w.rooms.get(room);
        if (layer < 0 || layer >= r.layers || row < 0 || row >= r.rows) return say(-1);
        if (r.laid.contains(layer * 10 + row) || layer > 0 && !r.laid.contains(layer * 10 - 10 + row)) return say(-7);
        r.laid.add(layer * 10 + row);
        return say(0);
    }

    int tear(int room, int layer, int row) {
        if (noRoom(room)) return say(-2);
        Room r = w.rooms.get(room);
        if (layer < 0 || layer >= r.layers || row < 0 || row >= r.rows) return say(-1);
        if (!r.laid.contains(layer * 10 + row)) return say(-3);
        for (int z = layer + 1; z < r.layers; z++) if (r.laid.contains(z * 10 + row)) return say(-7);
        for (int x = 0; x < r.width; x++) if (r.what(x, row, layer) != 0) return say(-7);
        r.laid.remove(layer * 10 + row);
        return say(0);
    }

    private int find(int room, int place) {
        if (noRoom(room)) return -2;
        Room r = w.rooms.get(room);
        if (place < 0 || place >= r.size()) return -1;
        return r.laid.contains(r.z(place) * 10 + r.y(place)) ? 0 : -3;
    }

    private int canPut(int room, int place) {
        int n = find(room, place);
        if (n != 0) return n;
        Room r = w.rooms.get(room);
        if (r.things.containsKey(place)) return -4;
        if (r.z(place) == 0) return 0;
        int under = r.what(r.x(place), r.y(place), r.z(place) - 1);
        return under == 1 || under >= 10 ? 0 : -5;
    }

    private int cutNow(int room, int place, int kind, int grams) {
        Block b = new Block();
        b.kind = kind; b.grams = grams; b.room = room; b.place = place; b.cut = w.today;
        w.blocks.add(b);
        w.cut += grams;
        w.rooms.get(room).things.put(place, 9 + w.blocks.size());
        return w.blocks.size() - 1;
    }

    int cut(int room, int place, int kind, int grams) {
        if (kind < 0 || kind > 2 || grams < 1000 || grams > 1000000) return say(-1);
        int n = canPut(room, place);
        if (n != 0) return say(n);
        return say(w.blocks.size() >= 300 ? -6 : cutNow(room, place, kind, grams));
    }

    int put(int room, int place, int what) {
        if (what != 0 && what != 1) return say(-1);
        int n = canPut(room, place);
        if (n != 0) return say(n);
        Room r = w.rooms.get(room);
        if (what == 0 && (r.kind == 4 || r.kind == 3 && r.layers == 1)) return say(-7);
        r.things.put(place, what + 1);
        return say(0);
    }

    int clear(int room, int place) {
        int n = find(room, place);
        if (n != 0) return say(n);
        Room r = w.rooms.get(room);
        int t = r.things.getOrDefault(place, 0);
        if (t != 1 && t != 2 || r.what(r.x(place), r.y(place), r.z(place) + 1) != 0) return say(-7);
        r.things.remove(place);
        return say(0);
    }

    int place(int room, int place) {
        int n = find(room, place);
        return n != 0 ? n : w.rooms.get(room).things.getOrDefault(place, 0);
    }

    int block(int i, int what) {
        if (what < 0 || what > 9) return -1;
        if (i < 0 || i >= w.blocks.size()) return -2;
        Block b = w.blocks.get(i);
        if (what <= 5) return new int[] {b.kind, b.grams, b.room, b.place, b.cut, b.spoilt}[what];
        if (b.room < 0) return 0;
        return new int[] {sides(w, b)[0], sides(w, b)[1], loss(w, b, outsideTenths(w.today)), free(w, b) ? 1 : 0}[what - 6];
    }

    int warm(int day, int bits) {
        float f = Float.intBitsToFloat(bits);
        if (day < 0 || day > 199 || f < -60 || f > 60) return say(-1);
        told[day] = Float.isNaN(f) ? null : f;
        return say(0);
    }

    int tenths(int day) { return day < 0 || day > 199 ? -1000 : outsideTenths(day); }

    int terms(int part, int wet, int least) {
        if (part < 0 || part > 100 || wet < 0 || wet > 10000 || least < 1 || least > 1000000) return say(-1);
        this.part = part; this.wet = wet; this.least = least;
        return say(0);
    }

    int day() {
        if (w.today == 199) return say(-7);
        lines = new ArrayList<>();
        int melted = pass(w, outsideTenths(w.today), lines);
        right = new ArrayList<>();
        for (int[] l : lines) right.add(l.clone());
        return say(melted);
    }

    int count(int what) {
        int led = 0, standing = 0, days = 0;
        for (Room r : w.rooms) { led += r.led; standing += r.standing; }
        for (int[] s : way) days += s[1];
        int[] all = {w.today, w.cut, w.grams(-1), w.sold, w.melted, w.gone, led, standing, w.blocks.size(), w.inRooms(),
            w.rooms.size(), way.size(), days, lines.size(), heap.size(), list.size()};
        return what < 0 || what > 15 ? -1 : all[what];
    }

    int next(int room) { return noRoom(room) ? -2 : theNext(w, room); }

    int take(int room, int n) {
        if (n < 1 || n > 300) return say(-1);
        if (noRoom(room)) return say(-2);
        World then = w.copy();
        List<Integer> got = new ArrayList<>();
        for (int i = 0; i < n; i++) {
            int b = lift(then, room);
            if (b < 0) return say(-6);
            got.add(b);
        }
        int grams = then.sold - w.sold;
        w = then;
        list = got;
        return say(grams);
    }

    int way(int kind, int days) {
        if (kind != 3 && kind != 4 || days < 0 || days > 20) return say(-1);
        if (way.size() == 6) return say(-6);
        way.add(new int[] {kind, days});
        return say(way.size());
    }

    int home() {
        int n = way.size();
        way.clear();
        return n;
    }

    int comes(int room, int n) {
        if (n < 0 || n > 300) return -1;
        if (noRoom(room)) return -2;
        World then = w.copy();
        int sum = 0;
        for (int i = 0; i < n; i++) {
            int b = lift(then, room);
            if (b < 0) return -6;
            sum += arrives(then, then.blocks.get(b));
        }
        return sum;
    }

    int send(int room, int grams) {
        if (grams < 1 || grams > 100000000) return say(-1);
        if (noRoom(room)) return say(-2);
        World then = w.copy();
        List<Integer> got = new ArrayList<>();
        int sum = 0;
        long cents = 0;
        while (sum < grams) {
            int i = lift(then, room);
            if (i < 0) {
                shortBy = grams - sum;
                came = bill = 0;
                return say(-6);
            }
            got.add(i);
            Block b = then.blocks.get(i);
            sum += arrives(then, b);
            cents += (long) b.grams * price[b.kind == 1 && b.spoilt >= 0 ? 0 : b.kind] / 1000;
        }
        w = then;
        list = got;
        shortBy = 0;
        came = sum;
        bill = (int) cents;
        return say(got.size());
    }

    int sent(int what) { return what == 0 ? shortBy : what == 1 ? came : what == 2 ? bill : -1; }

    int list(int i) { return i < 0 || i >= list.size() ? -1 : list.get(i); }

    int price(int kind, int cents) {
        if (kind < 0 || kind > 2 || cents < 0 || cents > 5000) return say(-1);
        price[kind] = cents;
        return say(0);
    }

    private static int[] allGrams(World w) {
        int[] row = new int[w.rooms.size() + 1];
        for (int r = -1; r < w.rooms.size(); r++) row[r + 1] = w.grams(r);
        return row;
    }

    int foretell(int days, int back) {
        if (days < 1 || days > 200 || back < 0 || back > 199) return say(-1);
        World then = w.copy();
        foretold = new ArrayList<>();
        foretold.add(allGrams(then));
        last = then.inRooms() == 0 ? then.today - 1 : -2;
        for (int i = 0; i < days && then.today < 199; i++) {
            int before = then.inRooms();
            pass(then, outsideTenths(Math.max(0, then.today - back)), null);
            foretold.add(allGrams(then));
            if (before > 0 && then.inRooms() == 0) last = then.today - 1;
        }
        return say(foretold.size() - 1);
    }

    int foretold(int room, int i) {
        if (foretold == null || i < 0 || i >= foretold.size() || room < -1) return -1;
        int[] row = foretold.get(i);
        return room + 1 < row.length ? row[room + 1] : -1;
    }

    int last() { return last; }

    int heap(int kind, int grams) {
        if (kind < 0 || kind > 2 || grams < 1000 || grams > 1000000) return say(-1);
        if (heap.size() == 30) return say(-6);
        heap.add(new int[] {kind, grams});
        return say(heap.size());
    }

    private static int airOf(Room r, TreeSet<Integer> places) {
        Room trial = r.copy();
        for (int p : places) trial.things.put(p, 10);
        int air = 0;
        for (int p : places) for (int t : trial.around(p)) if (t == 0) air++;
        return air;
    }

    private static boolean stands(Room r, TreeSet<Integer> places, int p) {
        return r.z(p) == 0 || places.contains(p - r.width * r.rows);
    }

    private static TreeSet<Integer> bestOfAll(Room r, int n) {
        TreeSet<Integer> best = null;
        int bestAir = 0;
        for (int mask = 0; mask < 1 << r.size(); mask++) {
            if (Integer.bitCount(mask) != n) continue;
            TreeSet<Integer> places = new TreeSet<>();
            for (int p = 0; p < r.size(); p++) if ((mask >> p & 1) != 0) places.add(p);
            boolean all = true;
            for (int p : places) all &= stands(r, places, p);
            if (!all) continue;
            int air = airOf(r, places);
            int[] a = places.stream().mapToInt(i -> i).toArray();
            int[] b = best == null ? null : best.stream().mapToInt(i -> i).toArray();
            if (best == null || air < bestAir || air == bestAir && Arrays.compare(a, b) < 0) {
                best = places;
                bestAir = air;
            }
        }
        return best;
    }

    private static TreeSet<Integer> oneByOne(Room r, int n) {
        TreeSet<Integer> places = new TreeSet<>();
        for (int i = 0; i < n; i++) {
            int best = -1, bestShut = -1;
            for (int p = 0; p < r.size(); p++) {
                if (places.contains(p) || !stands(r, places, p)) continue;
                Room trial = r.copy();
                for (int q : places) trial.things.put(q, 10);
                int shut = 0;
                for (int t : trial.around(p)) if (t == 10) shut++;
                if (shut > bestShut) {
                    best = p;
                    bestShut = shut;
                }
            }
            places.add(best);
        }
        return places;
    }

    int pack(int room) {
        if (noRoom(room)) return say(-2);
        Room r = w.rooms.get(room);
        if (heap.size() > r.size() || heap.size() + w.blocks.size() > 300) return say(-6);
        if (heap.isEmpty() || r.laid.size() < r.rows * r.layers || !r.things.isEmpty()) return say(-7);
        boolean small = heap.size() <= 8 && r.width <= 3 && r.rows <= 3 && r.layers <= 2;
        TreeSet<Integer> places = small ? bestOfAll(r, heap.size()) : oneByOne(r, heap.size());
        int air = airOf(r, places), i = 0;
        for (int p : places) {
            cutNow(room, p, heap.get(i)[0], heap.get(i)[1]);
            i++;
        }
        heap.clear();
        return say(air);
    }

    int image(int k) {
        if (k < 0 || k > 3) return say(-1);
        images[k] = w.copy();
        return say(0);
    }

    int back(int k) {
        if (k < 0 || k > 3) return say(-1);
        if (images[k] == null) return say(-2);
        w = images[k].copy();
        lines = new ArrayList<>();
        right = null;
        return say(0);
    }

    int line(int i, int what) {
        if (what < 0 || what > 5) return -1;
        return i < 0 || i >= lines.size() ? -2 : lines.get(i)[what];
    }

    int alter(int i, int what, int mask) {
        if (what < 0 || what > 5 || mask == 0) return say(-1);
        if (i < 0 || i >= lines.size()) return say(-2);
        lines.get(i)[what] ^= mask;
        return say(0);
    }

    int check() {
        if (right == null) return -7;
        for (int i = 0; i < lines.size(); i++) if (!Arrays.equals(lines.get(i), right.get(i))) return i;
        return -1;
    }

    int status() { return status; }
}
