/** Promise 7; that there are 16384 is in TermPackTest. */
public final class PutTest {
    private final Check check = new Check();

    public static void main(String[] args) {
        PutTest test = new PutTest();
        test.howManyItHas();
        test.noByte();
        test.blockByPut();
        test.check.end();
    }

    private void howManyItHas() {
        check.about("A byte comes behind the pack: how many it has.");
        TracePacks x = new TracePacks();
        check.equal("the first one", x.put(0), 1);
        check.equal("255", x.put(255), 2);
        check.equal("126 as it is", x.put(126), 3);
        check.equal("125 as it is", x.put(125), 4);
        check.bytes("as they came", x, 0, 0, 255, 126, 125);
        check.counts("no row, no block", x, 4, 0, 0, 0);
        x.row(0, 1, 0);
        x.mark();
        check.equal("behind a block", x.put(7), 15);
        check.equal("there", x.byteAt(14), 7);
    }

    private void noByte() {
        check.about("IllegalArgumentException, when it is not 0 .. 255");
        TracePacks x = Blocks.packOf(3);
        check.argument("256", () -> x.put(256));
        check.argument("-1", () -> x.put(-1));
        check.argument("least", () -> x.put(Integer.MIN_VALUE));
        check.argument("most", () -> x.put(Integer.MAX_VALUE));
        check.bytes("none came", x, 0, 3);
    }

    private void blockByPut() {
        TracePacks x = new TracePacks();
        x.row(0, 1, 0);
        Blocks.putAll(x, Blocks.block(2, 77, 1, 32, 20));
        check.counts("the open block stays open", x, 11, 1, 1, 0);
        check.equal("a block that was put is read", x.read(0), 1);
        check.equal("where to", x.kept(0, 1), 10);
        check.equal("thread", x.kept(0, 3), 2);
        check.equal("time", x.kept(0, 4), 77);
        x.thread(2);
        check.equal("the thread's own time is not that", x.row(4, 1, 0), 1);
    }
}
