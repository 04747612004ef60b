/**
 * The limits of 16384 bytes and of 2000 rows kept. No run of 512 calls comes so far, so the calls here are
 * more than that: the document leaves free what they answer, but the class keeps to its limits then as well.
 */
public final class LimitsTest {
    private static final int MOST = 16384;

    public static void main(String[] args) {
        Check check = new Check();
        full(check);
        noRoomForTheBlock(check);
        justRoomForTheBlock(check);
        hundredRowsWithoutRoom(check);
        twoThousandKept(check);
        check.end();
    }

    private static TracePacks withRoomFor(int bytes) {
        TracePacks x = new TracePacks();
        for (int i = bytes; i < MOST; i++) {
            x.put(0);
        }
        return x;
    }

    private static void full(Check check) {
        TracePacks x = withRoomFor(1);
        check.equal("the last byte", x.put(255), MOST);
        check.state("one more", () -> x.put(0));
        check.argument("one more that is no byte: told first", () -> x.put(256));
        check.equal("as many as there were", x.count(0), MOST);
        check.equal("byte 16383", x.byteAt(16383), 255);
        check.index("byte 16384", () -> x.byteAt(16384));
        check.equal("mark() without a block", x.mark(), MOST);
        check.equal("read(16384)", x.read(MOST), 0);
        x.cut(MOST - 1);
        check.equal("room again", x.put(1), MOST);
    }

    private static void noRoomForTheBlock(Check check) {
        TracePacks x = withRoomFor(9);
        x.row(0, 1, 0);
        check.state("mark()", x::mark);
        check.equal("nothing was written", x.count(0), MOST - 9);
        check.equal("none was closed", x.count(3), 0);
        check.equal("the block is open still", x.count(1), 1);
        x.thread(1);
        check.argument("a wrong row: told first", () -> x.row(0, 2, 0));
        check.state("another thread's row", () -> x.row(4, 50, 0));
        check.equal("it did not come", x.count(2), 1);
        x.thread(0);
        check.equal("the block goes on", x.row(0, 1, 0), 2);
        x.cut(0);
        x.thread(1);
        check.equal("its time did not go on either", x.row(4, 49, 0), 1);
        check.bytes("the block", x, 0, Blocks.block(0, 0, 2, 7));
    }

    /** Shields need room, too. */
    private static void justRoomForTheBlock(Check check) {
        TracePacks x = withRoomFor(10);
        x.row(0, 1, 0);
        check.equal("just room", x.mark(), MOST);
        int length = Blocks.block(0, 0, 1, 104, 126, 126, 125, 125).length;
        TracePacks y = withRoomFor(length - 1);
        y.row(3, 0, 0x7e7e7d7d);
        check.state("the shields have no room", y::mark);
        y.cut(MOST - length);
        check.equal("they have", y.mark(), MOST);
    }

    /** 109 bytes, and one for a shield in the sum. */
    private static void hundredRowsWithoutRoom(Check check) {
        TracePacks x = withRoomFor(109);
        for (int i = 0; i < 100; i++) {
            x.row(2, 0, 0);
        }
        check.state("row 101", () -> x.row(2, 0, 0));
        check.equal("100 are open still", x.count(1), 100);
        check.equal("100 rows so far", x.count(2), 100);
        x.cut(MOST - 110);
        check.equal("with room", x.row(2, 0, 0), 1);
        check.equal("the pack is full", x.count(0), MOST);
    }

    private static void twoThousandKept(Check check) {
        TracePacks x = new TracePacks();
        for (int i = 0; i < 2050; i++) {
            x.thread(i / 100 % 2);
            x.row(i % 2 + 1, i, 0);
        }
        x.mark();
        check.equal("up to 2000", x.read(0), 2000);
        check.equal("others are not", x.count(8), 50);
        check.equal("all blocks", x.count(5), 21);
        check.equal("the last one kept", x.kept(1999, 1), 1999);
        check.index("no other one", () -> x.kept(2000, 1));
        check.index("nor merged", () -> x.merged(2000));
        check.equal("thread 0 first", x.merged(999), 1899);
        check.equal("then thread 1", x.merged(1000), 100);
        check.equal("the last one merged", x.merged(1999), 1999);
        x.choose(2, 15);
        check.equal("jumps alone: all of them", x.read(0), 1025);
        check.equal("jumps alone: the others are not", x.count(8), 1025);
    }
}
