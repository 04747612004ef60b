/** Promise 5. */
public final class ByteAtTest {
    public static void main(String[] args) {
        Check check = new Check();
        check.about("Byte i of the pack.");
        TracePacks x = Blocks.packOf(0, 255, 126, 125, 128, 127);
        check.bytes("what was put", x, 0, 0, 255, 126, 125, 128, 127);
        check.about("IndexOutOfBoundsException, when there is none.");
        check.index("behind the last one", () -> x.byteAt(6));
        check.index("ahead of the first one", () -> x.byteAt(-1));
        check.index("least", () -> x.byteAt(Integer.MIN_VALUE));
        check.index("most", () -> x.byteAt(Integer.MAX_VALUE));
        check.index("a place that the pack could have", () -> x.byteAt(16383));
        x.cut(1);
        check.equal("the first one stays", x.byteAt(0), 0);
        check.index("one that was cut", () -> x.byteAt(1));
        x.row(0, 1, 0);
        check.index("an open block is not in the pack", () -> x.byteAt(1));
        x.mark();
        check.equal("a closed one is", x.byteAt(1), 126);
        check.equal("its last byte", x.byteAt(10), 5);
        check.index("behind its last byte", () -> x.byteAt(11));
        x.cut(0);
        check.index("none is left", () -> x.byteAt(0));
        check.end();
    }
}
