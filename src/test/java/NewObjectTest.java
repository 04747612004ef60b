/** Promise 1. */
public final class NewObjectTest {
    private final Check check = new Check();

    public static void main(String[] args) {
        NewObjectTest test = new NewObjectTest();
        test.emptyPack();
        test.noBlock();
        test.nothingWasRead();
        test.firstThread();
        test.allAreChosen();
        test.timesBeginAtNothing();
        test.objectsAreApart();
        test.check.end();
    }

    private void emptyPack() {
        check.about("An empty pack");
        TracePacks x = new TracePacks();
        check.equal("bytes", x.count(0), 0);
        check.index("no byte", () -> x.byteAt(0));
        check.index("no byte to flip", () -> x.flip(0, 0));
        check.argument("no byte to cut", () -> x.cut(1));
        check.equal("nothing is cut", x.cut(0), 0);
        check.index("no byte to read from", () -> x.read(1));
        check.equal("reading from its end", x.read(0), 0);
        check.equal("the first byte", x.put(5), 1);
    }

    private void noBlock() {
        check.about("no block");
        TracePacks x = new TracePacks();
        check.counts("nothing so far", x, 0, 0, 0, 0);
        check.equal("mark()", x.mark(), 0);
        check.counts("nothing was closed", x, 0, 0, 0, 0);
        check.equal("the first row", x.row(0, 0, 0), 1);
        check.counts("a row", x, 0, 1, 1, 0);
    }

    private void nothingWasRead() {
        TracePacks x = new TracePacks();
        check.counts("nothing", x, 0, 0, 0, 0, 0, 0, 0, 0, 0);
        check.index("no row was kept", () -> x.kept(0, 0));
        check.merged("no row", x);
    }

    private void firstThread() {
        check.about("thread 0");
        check.equal("thread()", new TracePacks().thread(3), 0);
        TracePacks x = new TracePacks();
        x.row(0, 1, 0);
        x.mark();
        check.equal("its rows'", x.byteAt(1), 0);
    }

    private void allAreChosen() {
        check.about("all kinds and threads are chosen");
        check.equal("choose()", new TracePacks().choose(0, 0), 31 + 32 * 15);
        TracePacks x = new TracePacks();
        for (int t = 0; t < 4; t++) {
            x.thread(t);
            Blocks.write(x, new int[][] {{0, 1}, {1, 5}, {2, 6}, {3, 7, 8}, {4, 9}});
        }
        x.mark();
        check.equal("all are kept", x.read(0), 20);
        check.equal("none is not kept", x.count(8), 0);
    }

    private void timesBeginAtNothing() {
        check.about("0 at first");
        for (int t = 0; t < 4; t++) {
            TracePacks x = new TracePacks();
            x.thread(t);
            check.argument("a time below 0", () -> x.row(4, -1, 0));
            check.equal("time 0", x.row(4, 0, 0), 1);
        }
    }

    private void objectsAreApart() {
        TracePacks x = new TracePacks();
        TracePacks y = new TracePacks();
        x.thread(2);
        x.row(4, 7, 0);
        x.mark();
        x.read(0);
        x.choose(0, 0);
        check.counts("another object", y, 0, 0, 0, 0, 0, 0, 0, 0, 0);
        check.equal("another object's thread", y.thread(2), 0);
        check.equal("another object's time", y.row(4, 1, 0), 1);
        check.equal("another object's choice", y.choose(1, 1), 511);
    }
}
