/** Promise 6. */
public final class FlipTest {
    public static void main(String[] args) {
        Check check = new Check();
        TracePacks x = Blocks.packOf(0, 255, 170);
        check.equal("flip(0, 255)", x.flip(0, 255), 255);
        check.equal("flip(1, 1)", x.flip(1, 1), 254);
        check.equal("flip(2, 15)", x.flip(2, 15), 165);
        check.equal("flip(2, 0)", x.flip(2, 0), 165);
        check.bytes("from now on", x, 0, 255, 254, 165);
        check.equal("back again", x.flip(0, 255), 0);
        check.argument("mask 256", () -> x.flip(0, 256));
        check.argument("mask -1", () -> x.flip(0, -1));
        check.index("no byte 3", () -> x.flip(3, 1));
        check.index("no byte -1", () -> x.flip(-1, 1));
        check.index("neither: the byte is told first", () -> x.flip(3, 256));
        check.index("neither, least", () -> x.flip(Integer.MIN_VALUE, Integer.MIN_VALUE));
        check.bytes("wrong ones change nothing", x, 0, 0, 254, 165);
        breaksAndMends(check);
        check.end();
    }

    private static void breaksAndMends(Check check) {
        TracePacks x = new TracePacks();
        x.row(1, 7, 0);
        int length = x.mark();
        for (int i = 0; i < length; i++) {
            x.flip(i, 1);
            check.equal("byte " + i + " flipped", x.read(0), 0);
            x.flip(i, 1);
        }
        check.equal("all as it was", x.read(0), 1);
        x.flip(3, 4);
        check.equal("what was read stays", x.kept(0, 1), 7);
    }
}
