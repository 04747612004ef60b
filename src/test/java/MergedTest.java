/** Promise 12; the order is in TermMergedTest, that 2000 are kept is in TermKeptTest. */
public final class MergedTest {
    private final Check check = new Check();

    public static void main(String[] args) {
        MergedTest test = new MergedTest();
        test.whichRow();
        test.noRow();
        test.asItWasRead();
        test.check.end();
    }

    private static TracePacks read() {
        TracePacks x = Blocks.packOf(Blocks.joined(Blocks.block(2, 9, 2, 7), Blocks.block(1, 8, 1, 3)));
        x.read(0);
        return x;
    }

    private void whichRow() {
        check.about("Which row that was kept is the k-th one merged.");
        TracePacks x = read();
        check.merged("three rows", x, 2, 0, 1);
        check.equal("the last one first", x.merged(2), 1);
        check.merged("and again", x, 2, 0, 1);
        check.equal("kept rows are not moved", x.kept(2, 3), 1);
    }

    private void noRow() {
        check.about("IndexOutOfBoundsException, when there is none.");
        check.index("nothing was read", () -> new TracePacks().merged(0));
        TracePacks x = read();
        check.index("behind the last one", () -> x.merged(3));
        check.index("ahead of the first one", () -> x.merged(-1));
        check.index("one that could be", () -> x.merged(1999));
        check.index("least", () -> x.merged(Integer.MIN_VALUE));
        check.index("most", () -> x.merged(Integer.MAX_VALUE));
        x.choose(30, 15);
        x.read(0);
        check.index("none was kept", () -> x.merged(0));
    }

    private void asItWasRead() {
        TracePacks x = read();
        x.row(4, 3, 0);
        x.mark();
        x.flip(0, 1);
        x.choose(0, 0);
        x.cut(3);
        check.merged("what came later changes nothing", x, 2, 0, 1);
        x.choose(31, 15);
        x.cut(0);
        Blocks.putAll(x, Blocks.block(3, 0, 1, 3));
        x.read(0);
        check.merged("read anew", x, 0);
    }
}
