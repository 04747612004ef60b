/** Promise 8. */
public final class CutTest {
    public static void main(String[] args) {
        Check check = new Check();
        TracePacks x = Blocks.packOf(1, 2, 3, 4, 5);
        check.equal("none goes", x.cut(5), 0);
        check.argument("more than there are", () -> x.cut(6));
        check.argument("below 0", () -> x.cut(-1));
        check.argument("least", () -> x.cut(Integer.MIN_VALUE));
        check.argument("most", () -> x.cut(Integer.MAX_VALUE));
        check.bytes("wrong ones change nothing", x, 0, 1, 2, 3, 4, 5);
        check.equal("two go", x.cut(3), 2);
        check.argument("what has gone is gone", () -> x.cut(4));
        check.equal("a byte behind", x.put(9), 4);
        check.bytes("then", x, 0, 1, 2, 3, 9);
        check.equal("all go", x.cut(0), 4);
        check.equal("none is left", x.cut(0), 0);
        check.argument("one of none", () -> x.cut(1));
        staysRead(check);
        check.end();
    }

    private static void staysRead(Check check) {
        TracePacks x = new TracePacks();
        x.row(1, 7, 0);
        x.mark();
        x.read(0);
        x.row(1, 8, 0);
        x.cut(0);
        check.equal("what was read stays", x.kept(0, 1), 7);
        check.equal("and is merged", x.merged(0), 0);
        check.equal("blocks closed so far stay", x.count(3), 1);
        check.equal("rows so far stay", x.count(2), 2);
        check.equal("the open block stays", x.count(1), 1);
        check.equal("reading what is left", x.read(0), 0);
        x.mark();
        check.equal("reading the block that was open", x.read(0), 1);
        check.equal("its row", x.kept(0, 1), 8);
    }
}
