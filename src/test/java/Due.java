import java.util.HashSet;
import java.util.Set;

/** Counts and prints answers that are not the ones that are due. */
final class Due {
    private String sentence = "";
    private final Set<String> sentences = new HashSet<>();
    private int wrong;

    /** The sentence of the document that the answers from here on are held against; [..] stands for what is left out. */
    void says(String where, String itsSentence) {
        sentence = " [" + where + ": " + itsSentence + "]";
        sentences.add(sentence);
    }

    /** A sentence, and which of its edges it is. */
    void says(String where, String itsSentence, String edge) {
        says(where, itsSentence + " -- " + edge);
    }

    void due(String call, long got, long want) {
        if (got != want) {
            wrong++;
            System.out.println(call + " answered " + got + ", due is " + want + sentence);
        }
    }

    /** An answer of a call that may be refused, and what status() tells behind it. */
    void told(IceTrade x, String call, int got, int want) {
        due(call, got, want);
        due("status() behind " + call, x.status(), Math.min(want, 0));
    }

    void holds(String what, boolean isSo) {
        if (!isSo) {
            wrong++;
            System.out.println("does not hold: " + what + sentence);
        }
    }

    void end() {
        String held = sentences.isEmpty() ? "" : ", held against " + sentences.size() + " sentences";
        System.out.println((wrong == 0 ? "all answers are as due" : wrong + " answers are not as due") + held);
        if (wrong != 0) {
            System.exit(1);
        }
    }

    /** Lays all rows of a room that has none. */
    static void layAll(IceTrade x, int room) {
        for (int layer = 0; layer < x.rooms(room, 3); layer++) {
            for (int row = 0; row < x.rooms(room, 2); row++) {
                x.lay(room, layer, row);
            }
        }
    }

    /** A room of its own with all rows laid. */
    static int laidRoom(IceTrade x, int kind, int width, int rows, int layers) {
        int room = x.room(kind, width, rows, layers, -1);
        layAll(x, room);
        return room;
    }

    static int warm(IceTrade x, int day, float degrees) {
        return x.warm(day, Float.floatToRawIntBits(degrees));
    }

    /** Lets so many days go by. */
    static void days(IceTrade x, int n) {
        for (int i = 0; i < n; i++) {
            x.day();
        }
    }
}
