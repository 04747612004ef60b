/** Promise 5. */
public final class ByteAtTest {
    public static void main(String[] args) {
        Check check = new Check();
        TracePacks x = Blocks.packOf(0, 255, 126, 125);
        check.bytes("what was put", x, 0, 0, 255, 126, 125);
        check.index("behind the last one", () -> x.byteAt(4));
        check.index("ahead of the first one", () -> x.byteAt(-1));
        check.index("least", () -> x.byteAt(Integer.MIN_VALUE));
        check.index("most", () -> x.byteAt(Integer.MAX_VALUE));
        check.index("a place that the pack could have", () -> x.byteAt(16383));
        x.cut(1);
        check.equal("the first one stays", x.byteAt(0), 0);
        check.index("one that was cut", () -> x.byteAt(1));
        x.row(0, 1, 0);
        check.index("an open block is not in the pack", () -> x.byteAt(1));
        check.end();
    }
}
