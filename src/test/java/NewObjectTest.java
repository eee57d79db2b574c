import java.lang.reflect.Method;
import java.lang.reflect.Modifier;
import java.util.TreeSet;

/** Promise 1 (a new object), and the public face. */
public final class NewObjectTest {
    private static final String[] FACE = {"room 5", "rooms 2", "lay 3", "tear 3", "cut 4", "put 3", "clear 2", "place 2",
        "block 2", "warm 2", "tenths 1", "terms 3", "day 0", "count 1", "next 1", "take 2", "way 2", "home 0", "comes 2",
        "send 2", "sent 1", "list 1", "price 2", "foretell 2", "foretold 2", "last 0", "heap 2", "pack 1", "image 1",
        "back 1", "line 2", "alter 3", "check 0", "status 0"};

    private static final Due DUE = new Due();

    public static void main(String[] args) {
        face();
        nothingYet();
        objectsAreApart();
        DUE.end();
    }

    private static void face() {
        TreeSet<String> due = new TreeSet<>(java.util.Arrays.asList(FACE));
        TreeSet<String> seen = new TreeSet<>();
        TreeSet<String> privates = new TreeSet<>();
        for (Method m : IceTrade.class.getDeclaredMethods()) {
            if (Modifier.isPrivate(m.getModifiers())) {
                privates.add(m.getName());
            } else {
                seen.add(m.getName() + " " + m.getParameterCount());
                DUE.holds(m.getName() + " is public and answers an int",
                    Modifier.isPublic(m.getModifiers()) && m.getReturnType() == int.class);
            }
        }
        DUE.holds("the face is that of the document: " + seen, seen.equals(due));
        for (String call : due) {
            DUE.holds("no private method is called " + call, !privates.contains(call.split(" ")[0]));
        }
        DUE.holds("the class is public and final", Modifier.isPublic(IceTrade.class.getModifiers())
            && Modifier.isFinal(IceTrade.class.getModifiers()));
        DUE.due("fields that are seen", IceTrade.class.getFields().length, 1);
        DUE.due("NONE", IceTrade.NONE, -1);
    }

    private static void nothingYet() {
        IceTrade x = new IceTrade();
        for (int what = 0; what <= 15; what++) {
            DUE.due("count(" + what + ")", x.count(what), 0);
        }
        DUE.due("rooms(0, 0)", x.rooms(0, 0), -2);
        DUE.due("block(0, 0)", x.block(0, 0), -2);
        DUE.due("place(0, 0)", x.place(0, 0), -2);
        DUE.due("next(0)", x.next(0), -2);
        DUE.due("tenths(0)", x.tenths(0), 0);
        DUE.due("tenths(199)", x.tenths(199), 0);
        DUE.due("list(0)", x.list(0), -1);
        for (int what = 0; what <= 2; what++) {
            DUE.due("sent(" + what + ")", x.sent(what), 0);
        }
        DUE.due("foretold(-1, 0)", x.foretold(-1, 0), -1);
        DUE.due("last()", x.last(), -1);
        DUE.due("line(0, 0)", x.line(0, 0), -2);
        DUE.due("check()", x.check(), -7);
        DUE.due("status()", x.status(), 0);
        for (int k = 0; k < 4; k++) {
            DUE.due("back(" + k + ")", x.back(k), -2);
        }
    }

    private static void objectsAreApart() {
        IceTrade one = new IceTrade();
        IceTrade other = new IceTrade();
        Due.laidRoom(one, 0, 2, 2, 2);
        one.cut(0, 0, 0, 5000);
        Due.warm(one, 0, 10f);
        DUE.due("count(10) of the other", other.count(10), 0);
        DUE.due("count(8) of the other", other.count(8), 0);
        DUE.due("tenths(0) of the other", other.tenths(0), 0);
    }
}
