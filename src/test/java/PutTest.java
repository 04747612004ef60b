/** Promise 7; that the pack is full is in LimitsTest. */
public final class PutTest {
    public static void main(String[] args) {
        Check check = new Check();
        TracePacks x = new TracePacks();
        check.equal("the first one", x.put(0), 1);
        check.equal("255", x.put(255), 2);
        check.argument("256", () -> x.put(256));
        check.argument("-1", () -> x.put(-1));
        check.argument("least", () -> x.put(Integer.MIN_VALUE));
        check.argument("most", () -> x.put(Integer.MAX_VALUE));
        check.equal("126 as it is", x.put(126), 3);
        check.equal("125 as it is", x.put(125), 4);
        check.bytes("as they came", x, 0, 0, 255, 126, 125);
        check.equal("no block was closed by it", x.count(3), 0);
        check.equal("no row came by it", x.count(2), 0);
        blockByPut(check);
        check.end();
    }

    private static void blockByPut(Check check) {
        TracePacks x = new TracePacks();
        x.row(0, 1, 0);
        Blocks.putAll(x, Blocks.block(2, 77, 1, 32, 20));
        check.equal("the open block stays open", x.count(1), 1);
        check.equal("a block that was put is read", x.read(0), 1);
        check.equal("where to", x.kept(0, 1), 10);
        check.equal("thread", x.kept(0, 3), 2);
        check.equal("time", x.kept(0, 4), 77);
        x.thread(2);
        check.equal("the thread's own time is not that", x.row(4, 1, 0), 1);
    }
}
