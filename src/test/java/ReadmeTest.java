/** The run of calls that README.md shows. */
public final class ReadmeTest {
    private static final Due DUE = new Due();

    public static void main(String[] args) {
        IceTrade trade = new IceTrade();
        int room = trade.room(1, 3, 2, 2, IceTrade.NONE);
        DUE.told(trade, "room", room, 0);
        DUE.told(trade, "lay", trade.lay(room, 0, 0), 0);
        DUE.told(trade, "cut", trade.cut(room, 0, 0, 20000), 0);
        DUE.told(trade, "put", trade.put(room, 1, 0), 0);
        DUE.told(trade, "warm", trade.warm(0, Float.floatToRawIntBits(12.5f)), 0);
        DUE.told(trade, "day", trade.day(), 1652);
        DUE.told(trade, "way", trade.way(4, 2), 1);
        DUE.told(trade, "price", trade.price(0, 80), 0);
        DUE.told(trade, "send", trade.send(room, 5000), 1);
        DUE.due("bill", trade.sent(2), 1467);
        DUE.end();
    }
}
