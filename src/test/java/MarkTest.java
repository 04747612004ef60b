/** Promise 4, and what stands round the rows: mark, shields, sum. */
public final class MarkTest {
    public static void main(String[] args) {
        Check check = new Check();
        without(check);
        sum(check);
        shields(check);
        shieldedSums(check);
        behindOtherBytes(check);
        check.end();
    }

    private static void without(Check check) {
        TracePacks x = new TracePacks();
        check.equal("no block", x.mark(), 0);
        x.row(0, 1, 0);
        check.equal("one block", x.mark(), 10);
        check.equal("no block again", x.mark(), 10);
        check.equal("one was closed", x.count(3), 1);
        check.equal("none is open", x.count(1), 0);
        check.equal("a new block", x.row(0, 1, 0), 1);
        check.equal("two blocks", x.mark(), 20);
    }

    /** Of 3, 0, 0, 0, 0, 1, 3: p is 7; q is 3 five times, 4, 7. */
    private static void sum(Check check) {
        TracePacks x = new TracePacks();
        x.thread(3);
        x.row(0, 1, 0);
        x.mark();
        check.bytes("a small sum", x, 0, 126, 3, 0, 0, 0, 0, 1, 3, 7, 3 * 5 + 4 + 7);
        TracePacks y = new TracePacks();
        y.row(3, 0, -1);
        y.mark();
        // 0 0 0 0 0 1 104 255 255 255 255: 255 is nothing modulo 255.
        check.bytes("255 in the sum", y, 0, 126, 0, 0, 0, 0, 0, 1, 104, 255, 255, 255, 255, 105, (1 + 5 * 105) % 255);
    }

    private static void shields(Check check) {
        TracePacks x = new TracePacks();
        x.row(3, 0, 0x7e7d7e7d);
        check.equal("the value is shielded", x.mark(), 1 + 6 + 1 + 8 + 2);
        int[] want = {126, 0, 0, 0, 0, 0, 1, 104, 125, 94, 125, 93, 125, 94, 125, 93};
        for (int i = 0; i < want.length; i++) {
            check.equal("shields: byte " + i, x.byteAt(i), want[i]);
        }
        check.equal("what is read", x.read(0), 1);
        check.equal("the value", x.kept(0, 2), 0x7e7d7e7d);
        TracePacks y = new TracePacks();
        y.row(1, 63, 0);
        y.mark();
        check.equal("a number is shielded: 125", y.byteAt(8), 125);
        check.equal("a number is shielded: 94", y.byteAt(9), 94);
    }

    /** Tries values until p, and until q, is a byte that must be shielded. */
    private static void shieldedSums(Check check) {
        int seen = 0;
        for (int v = 0; v < 256; v++) {
            int[] bytes = Blocks.block(0, 0, 1, 104, 0, 0, 0, v);
            TracePacks x = new TracePacks();
            x.row(3, 0, v);
            x.mark();
            check.bytes("value " + v, x, 0, bytes);
            check.equal("value " + v + " is read", x.read(0), 1);
            if (bytes[bytes.length - 2] == 125 && v != 125 && v != 126) {
                seen++;
            }
        }
        check.isTrue("a sum was shielded", seen > 0);
    }

    private static void behindOtherBytes(Check check) {
        TracePacks x = new TracePacks();
        x.row(0, 1, 0);
        x.put(9);
        check.equal("a byte that was put stands first", x.mark(), 11);
        check.equal("byte 0", x.byteAt(0), 9);
        check.equal("byte 1", x.byteAt(1), 126);
        x.row(0, 1, 0);
        check.equal("what is cut", x.cut(3), 8);
        check.equal("the open block is not cut", x.count(1), 1);
        check.equal("behind what is left", x.mark(), 13);
        check.equal("byte 3", x.byteAt(3), 126);
    }
}
