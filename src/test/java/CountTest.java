/** Promise 13. */
public final class CountTest {
    private final Check check = new Check();

    public static void main(String[] args) {
        CountTest test = new CountTest();
        test.anotherWhat();
        test.soFar();
        test.refusedCalls();
        test.passedOver();
        test.ofWhatWasReadLast();
        test.check.end();
    }

    private void anotherWhat() {
        check.about("NONE for another what.");
        TracePacks x = Blocks.written(new int[] {0, 1});
        x.read(0);
        for (int what : new int[] {-1, 9, 10, Integer.MIN_VALUE, Integer.MAX_VALUE}) {
            check.equal("count(" + what + ")", x.count(what), TracePacks.NONE);
        }
    }

    private void soFar() {
        check.about("Bytes of the pack (0), rows of the open block (1), rows so far (2), blocks closed so far (3)");
        TracePacks x = new TracePacks();
        Blocks.write(x, new int[][] {{0, 1}, {1, 1}});
        check.counts("two rows", x, 0, 2, 2, 0, 0, 0, 0, 0, 0);
        x.thread(1);
        x.row(0, 1, 0);
        check.counts("another thread's row", x, 12, 1, 3, 1, 0, 0, 0, 0, 0);
        x.mark();
        check.counts("closed", x, 22, 0, 3, 2, 0, 0, 0, 0, 0);
        x.put(126);
        check.counts("a byte more", x, 23, 0, 3, 2);
        x.flip(0, 1);
        check.counts("a broken block was closed all the same", x, 23, 0, 3, 2);
        x.cut(5);
        check.counts("bytes less", x, 5, 0, 3, 2);
        x.read(0);
        check.counts("what is read is not so far", x, 5, 0, 3, 2);
        Blocks.writeMany(x, 101, 0, 0);
        check.counts("101 rows more", x, 5 + 34, 1, 104, 3);
    }

    private void refusedCalls() {
        TracePacks x = Blocks.written(new int[] {0, 1});
        x.row(0, 1, 0);
        x.read(0);
        check.argument("row", () -> x.row(9, 0, 0));
        check.index("thread", () -> x.thread(4));
        check.index("byteAt", () -> x.byteAt(10));
        check.index("flip", () -> x.flip(10, 1));
        check.argument("put", () -> x.put(256));
        check.argument("cut", () -> x.cut(11));
        check.argument("choose", () -> x.choose(32, 0));
        check.index("read", () -> x.read(11));
        check.index("kept", () -> x.kept(1, 0));
        check.index("merged", () -> x.merged(1));
        check.counts("they change nothing", x, 10, 1, 2, 1, 0, 1, 0, 1, 0);
    }

    private void passedOver() {
        check.about("bytes passed over ahead of the first mark (4; without one all from there on)");
        TracePacks x = Blocks.packOf(1, 2, 3);
        for (int from = 0; from <= 3; from++) {
            x.read(from);
            check.equal("without one, from " + from, x.count(4), 3 - from);
        }
        x.put(126);
        for (int from = 0; from <= 4; from++) {
            x.read(from);
            check.equal("the last byte is one, from " + from, x.count(4), from == 4 ? 0 : 3 - from);
        }
        check.index("a refused reading", () -> x.read(5));
        check.equal("stays", x.count(4), 0);
    }

    private void ofWhatWasReadLast() {
        check.about("blocks (5), broken ones (6), rows kept (7), rows not kept (8; those that are not chosen, too)");
        TracePacks x = Blocks.packOf(Blocks.joined(Blocks.block(0, 0, 3, 6, 32, 2), Blocks.block(1, 0, 1, 3),
            new int[] {126, 5}));
        x.read(0);
        check.counts("all", x, 24, 0, 0, 0, 0, 2, 1, 4, 0);
        x.choose(2, 15);
        check.counts("choosing alone changes nothing", x, 24, 0, 0, 0, 0, 2, 1, 4, 0);
        x.read(0);
        check.counts("jumps alone", x, 24, 0, 0, 0, 0, 2, 1, 1, 3);
        x.choose(31, 2);
        x.read(0);
        check.counts("thread 1 alone", x, 24, 0, 0, 0, 0, 2, 1, 1, 3);
        x.choose(2, 2);
        x.read(0);
        check.counts("jumps of thread 1", x, 24, 0, 0, 0, 0, 2, 1, 0, 4);
        x.read(1);
        check.counts("from 1", x, 24, 0, 0, 0, 11, 1, 1, 0, 1);
        x.cut(0);
        check.counts("cutting changes no more than the bytes", x, 0, 0, 0, 0, 11, 1, 1, 0, 1);
        x.read(0);
        check.counts("nothing", x, 0, 0, 0, 0, 0, 0, 0, 0, 0);
    }
}
