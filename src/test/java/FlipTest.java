/** Promise 6. */
public final class FlipTest {
    private final Check check = new Check();

    public static void main(String[] args) {
        FlipTest test = new FlipTest();
        test.exclusiveOr();
        test.noByte();
        test.noMask();
        test.firstOneTold();
        test.breaksAndMends();
        test.check.end();
    }

    private void exclusiveOr() {
        check.about("Byte i of the pack exclusive or mask, from now on: what it is.");
        TracePacks x = Blocks.packOf(0, 255, 170);
        check.equal("flip(0, 255)", x.flip(0, 255), 255);
        check.equal("flip(1, 1)", x.flip(1, 1), 254);
        check.equal("flip(2, 15)", x.flip(2, 15), 165);
        check.equal("flip(2, 0)", x.flip(2, 0), 165);
        check.bytes("from now on", x, 0, 255, 254, 165);
        check.equal("back again", x.flip(0, 255), 0);
        check.equal("255 to 0", x.flip(1, 254), 0);
        check.bytes("at last", x, 0, 0, 0, 165);
    }

    private void noByte() {
        check.about("IndexOutOfBoundsException, when there is none");
        TracePacks x = Blocks.packOf(1, 2);
        check.index("behind the last one", () -> x.flip(2, 1));
        check.index("ahead of the first one", () -> x.flip(-1, 1));
        check.index("least", () -> x.flip(Integer.MIN_VALUE, 1));
        check.index("most", () -> x.flip(Integer.MAX_VALUE, 1));
        check.index("with mask 0", () -> x.flip(2, 0));
        x.row(0, 1, 0);
        check.index("an open block is not in the pack", () -> x.flip(2, 1));
        x.cut(1);
        check.index("one that was cut", () -> x.flip(1, 1));
        check.equal("a byte comes in its place", x.put(9), 2);
        check.bytes("nothing was changed", x, 0, 1, 9);
    }

    private void noMask() {
        check.about("IllegalArgumentException, when mask is not 0 .. 255");
        TracePacks x = Blocks.packOf(1, 2);
        check.argument("256", () -> x.flip(0, 256));
        check.argument("-1", () -> x.flip(1, -1));
        check.argument("least", () -> x.flip(0, Integer.MIN_VALUE));
        check.argument("most", () -> x.flip(0, Integer.MAX_VALUE));
        check.bytes("nothing was changed", x, 0, 1, 2);
    }

    private void firstOneTold() {
        check.about("Of several exceptions the first one told is thrown.");
        TracePacks x = Blocks.packOf(1, 2);
        check.index("behind the last one, mask 256", () -> x.flip(2, 256));
        check.index("ahead of the first one, mask -1", () -> x.flip(-1, -1));
        check.index("least, least", () -> x.flip(Integer.MIN_VALUE, Integer.MIN_VALUE));
        check.index("of an empty pack", () -> new TracePacks().flip(0, 256));
    }

    private void breaksAndMends() {
        TracePacks x = Blocks.written(new int[] {1, 7});
        int length = x.count(0);
        for (int i = 0; i < length; i++) {
            x.flip(i, 1);
            check.equal("byte " + i + " flipped", x.read(0), 0);
            x.flip(i, 1);
        }
        check.equal("all as it was", x.read(0), 1);
        x.flip(3, 4);
        check.equal("what was read stays", x.kept(0, 1), 7);
    }
}
