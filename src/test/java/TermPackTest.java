/**
 * The terms: the pack, and when the open block is closed. No run of 512 calls comes to 16384 bytes (two calls bring
 * 29 at the most), so the calls that fill it here are more than that: what they answer is free, and the limit holds.
 */
public final class TermPackTest {
    private static final int MOST = 16384;

    private final Check check = new Check();

    public static void main(String[] args) {
        TermPackTest test = new TermPackTest();
        test.full();
        test.noRoomForMark();
        test.noRoomForAnotherThreadsRow();
        test.noRoomForRow101();
        test.justRoom();
        test.shieldsNeedRoom();
        test.closedByMark();
        test.closedByAnotherThreadsRow();
        test.closedByRow101();
        test.behindThePack();
        test.all512Calls();
        test.check.end();
    }

    private static TracePacks withRoomFor(int bytes) {
        TracePacks x = new TracePacks();
        for (int i = bytes; i < MOST; i++) {
            x.put(0);
        }
        return x;
    }

    private void full() {
        check.about("THE PACK is a row of 16384 bytes at most.");
        TracePacks x = withRoomFor(1);
        check.equal("the last byte", x.put(255), MOST);
        check.state("one more", () -> x.put(0));
        check.argument("one more that is no byte: told first", () -> x.put(256));
        check.equal("as many as there were", x.count(0), MOST);
        check.equal("byte 16383", x.byteAt(16383), 255);
        check.index("byte 16384", () -> x.byteAt(16384));
        check.index("nor can it be flipped", () -> x.flip(16384, 1));
        check.equal("mark() without a block", x.mark(), MOST);
        check.equal("read(16384)", x.read(MOST), 0);
        check.index("read(16385)", () -> x.read(MOST + 1));
        check.argument("cut(16385)", () -> x.cut(MOST + 1));
        check.equal("cut(16384)", x.cut(MOST), 0);
        check.equal("cut(16383)", x.cut(MOST - 1), 1);
        check.equal("room again", x.put(1), MOST);
        check.equal("all go", x.cut(0), MOST);
    }

    private void noRoomForMark() {
        check.about("IllegalStateException, when it would be too long.");
        TracePacks x = withRoomFor(9);
        x.row(0, 1, 0);
        check.state("ten bytes", x::mark);
        check.counts("nothing is done", x, MOST - 9, 1, 1, 0);
        check.state("again", x::mark);
        check.equal("the block goes on", x.row(0, 1, 0), 2);
        x.cut(MOST - 10);
        check.equal("with room", x.mark(), MOST);
        check.equal("both rows are in it", x.byteAt(MOST - 3), 7);
    }

    private void noRoomForAnotherThreadsRow() {
        check.about("IllegalStateException, when the block that would be closed for it would make the pack too long "
            + "(nothing is done then)");
        TracePacks x = withRoomFor(9);
        x.row(0, 1, 0);
        x.thread(1);
        check.argument("a wrong row: told first", () -> x.row(0, 2, 0));
        check.state("another thread's row", () -> x.row(4, 50, 0));
        check.counts("nothing is done", x, MOST - 9, 1, 1, 0);
        check.equal("the thread is as before", x.thread(0), 1);
        check.equal("the block goes on", x.row(0, 1, 0), 2);
        x.cut(0);
        x.thread(1);
        check.equal("its time did not go on either", x.row(4, 49, 0), 1);
        check.bytes("the block", x, 0, Blocks.block(0, 0, 2, 7));
    }

    /** 109 bytes, and one for a shield in the sum. */
    private void noRoomForRow101() {
        TracePacks x = withRoomFor(109);
        Blocks.writeMany(x, 100, 2, 0);
        check.argument("a wrong row 101: told first", () -> x.row(2, 0, 1));
        check.state("row 101", () -> x.row(2, 0, 0));
        check.counts("nothing is done", x, MOST - 109, 100, 100, 0);
        x.cut(MOST - 110);
        check.equal("with room", x.row(2, 0, 0), 1);
        check.counts("the pack is full", x, MOST, 1, 101, 1);
        check.state("no room for the next block", x::mark);
    }

    private void justRoom() {
        TracePacks x = withRoomFor(10);
        x.row(0, 1, 0);
        check.equal("just room", x.mark(), MOST);
        check.equal("it is read", x.read(MOST - 10), 1);
        check.equal("an open block needs none", x.row(0, 1, 0), 1);
    }

    private void shieldsNeedRoom() {
        int length = Blocks.block(0, 0, 1, 104, 126, 126, 125, 125).length;
        TracePacks x = withRoomFor(length - 1);
        x.row(3, 0, 0x7e7e7d7d);
        check.state("the shields have no room", x::mark);
        check.counts("nothing is done", x, MOST - length + 1, 1, 1, 0);
        x.cut(MOST - length);
        check.equal("they have", x.mark(), MOST);
    }

    private void closedByMark() {
        check.about("it is closed, and its bytes come behind the pack, by mark()");
        TracePacks x = new TracePacks();
        x.row(0, 1, 0);
        check.counts("open", x, 0, 1, 1, 0);
        x.mark();
        check.counts("closed", x, 10, 0, 1, 1);
        check.equal("mark() without a block", x.mark(), 10);
        check.counts("nothing is closed", x, 10, 0, 1, 1);
        Blocks.writeMany(x, 100, 0, 0);
        check.equal("with 100 rows", x.mark(), 10 + 34);
        check.counts("closed once", x, 44, 0, 101, 2);
        check.equal("the next row begins another one", x.row(0, 0, 0), 1);
        check.counts("which is open", x, 44, 1, 102, 2);
    }

    private void closedByAnotherThreadsRow() {
        check.about("when a row of another thread comes");
        TracePacks x = new TracePacks();
        x.row(0, 1, 0);
        x.thread(2);
        check.counts("thread() alone does not", x, 0, 1, 1, 0);
        check.argument("nor does a refused row", () -> x.row(4, -1, 0));
        check.counts("open still", x, 0, 1, 1, 0);
        x.thread(0);
        check.equal("there and back again", x.row(0, 1, 0), 2);
        x.thread(2);
        check.equal("a row does", x.row(0, 1, 0), 1);
        check.counts("closed", x, 10, 1, 3, 1);
        x.mark();
        x.thread(1);
        check.equal("none is open: none is closed", x.row(0, 1, 0), 1);
        check.counts("two", x, 20, 1, 4, 2);
    }

    private void closedByRow101() {
        check.about("when it has 100 rows and another one comes");
        TracePacks x = new TracePacks();
        Blocks.writeMany(x, 100, 0, 0);
        check.counts("100 rows", x, 0, 100, 100, 0);
        check.argument("a refused row does not", () -> x.row(5, 0, 0));
        check.counts("open still", x, 0, 100, 100, 0);
        x.thread(3);
        check.equal("another thread's row closes it once", x.row(0, 0, 0), 1);
        check.counts("one", x, 34, 1, 101, 1);
        Blocks.writeMany(x, 99, 0, 0);
        check.counts("100 rows again", x, 34, 100, 200, 1);
        check.equal("the same thread's row", x.row(0, 0, 0), 1);
        check.counts("two", x, 68, 1, 201, 2);
        x.thread(0);
        check.equal("the block before is not gone on with", x.row(0, 0, 0), 1);
    }

    private void behindThePack() {
        check.about("its bytes come behind the pack");
        TracePacks x = new TracePacks();
        x.row(0, 1, 0);
        x.put(9);
        check.equal("a byte that was put stands first", x.mark(), 11);
        check.bytes("both", x, 0, Blocks.joined(new int[] {9}, Blocks.block(0, 0, 1, 3)));
        x.row(0, 1, 0);
        check.equal("what is cut", x.cut(3), 8);
        check.equal("the open block is not cut", x.count(1), 1);
        x.mark();
        check.bytes("behind what is left", x, 0, Blocks.joined(new int[] {9, 126, 0}, Blocks.block(0, 0, 1, 3)));
    }

    private void all512Calls() {
        check.about("An object is used for at most 512 calls after it has been made");
        TracePacks x = new TracePacks();
        for (int i = 1; i <= 509; i++) {
            check.equal("row " + i, x.row(3, i * i, ~i), (i - 1) % 100 + 1);
        }
        x.mark();
        check.equal("call 511: all rows are read", x.read(0), 509);
        check.equal("call 512", x.kept(508, 2), ~509);
        TracePacks y = new TracePacks();
        for (int i = 0; i < 255; i++) {
            y.thread(i % 4);
            y.row(3, Integer.MIN_VALUE, 0x7e7e7e7e);
        }
        y.mark();
        check.equal("call 512: blocks of one row", y.read(0), 255);
    }
}
