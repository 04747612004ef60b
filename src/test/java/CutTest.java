/** Promise 8. */
public final class CutTest {
    private final Check check = new Check();

    public static void main(String[] args) {
        CutTest test = new CutTest();
        test.howManyWent();
        test.refused();
        test.changesNothingElse();
        test.inTheMidstOfABlock();
        test.check.end();
    }

    private void howManyWent() {
        check.about("The pack has n bytes from now on, the others are gone: how many went.");
        TracePacks x = Blocks.packOf(1, 2, 3, 4, 5);
        check.equal("none goes", x.cut(5), 0);
        check.equal("one goes", x.cut(4), 1);
        check.equal("two go", x.cut(2), 2);
        check.equal("a byte behind", x.put(9), 3);
        check.bytes("then", x, 0, 1, 2, 9);
        check.equal("all go", x.cut(0), 3);
        check.equal("none is left", x.cut(0), 0);
        check.equal("the first byte again", x.put(8), 1);
    }

    private void refused() {
        check.about("IllegalArgumentException, when n is not 0 up to what it has.");
        TracePacks x = Blocks.packOf(1, 2, 3);
        check.argument("more than there are", () -> x.cut(4));
        check.argument("below 0", () -> x.cut(-1));
        check.argument("least", () -> x.cut(Integer.MIN_VALUE));
        check.argument("most", () -> x.cut(Integer.MAX_VALUE));
        check.bytes("nothing is changed", x, 0, 1, 2, 3);
        x.row(0, 1, 0);
        check.argument("an open block is not in the pack", () -> x.cut(4));
        x.cut(2);
        check.argument("what has gone is gone", () -> x.cut(3));
        x.cut(0);
        check.argument("one of none", () -> x.cut(1));
    }

    private void changesNothingElse() {
        TracePacks x = Blocks.written(new int[] {1, 7});
        x.read(0);
        x.row(1, 8, 0);
        x.cut(0);
        check.counts("the open block, rows and blocks so far, what was read", x, 0, 1, 2, 1, 0, 1, 0, 1, 0);
        check.equal("what was kept", x.kept(0, 1), 7);
        check.merged("what was kept", x, 0);
        check.equal("reading what is left", x.read(0), 0);
        x.mark();
        check.equal("reading the block that was open", x.read(0), 1);
        check.equal("its row", x.kept(0, 1), 8);
    }

    private void inTheMidstOfABlock() {
        TracePacks x = Blocks.written(new int[] {1, 7});
        x.cut(x.count(0) - 1);
        check.equal("it is broken", x.read(0), 0);
        check.equal("one is", x.count(6), 1);
        x.row(1, 8, 0);
        x.mark();
        check.equal("the one behind it is not", x.read(0), 1);
        check.equal("one is still", x.count(6), 1);
    }
}
