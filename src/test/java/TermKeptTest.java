/** The terms: which rows that are read are kept, and with what time. */
public final class TermKeptTest {
    private final Check check = new Check();

    public static void main(String[] args) {
        TermKeptTest test = new TermKeptTest();
        test.upTo2000();
        test.just2000();
        test.upTo2000OfOneKind();
        test.othersDoNotCount();
        test.mergedUpTo2000();
        test.timeOfTheBlock();
        test.latestTimeRow();
        test.timeRowsThatAreNotChosen();
        test.timeOfAnotherBlock();
        test.check.end();
    }

    private void upTo2000() {
        check.about("Rows that are read are kept, up to 2000 (others are not)");
        TracePacks x = new ManyRows(22).pack();
        check.equal("2200 rows", x.read(0), 2000);
        check.counts("200 are not kept", x, 1121, 0, 220, 3, 0, 22, 3, 2000, 200);
        check.equal("the last one is a branch", x.kept(1999, 0), 0);
        check.equal("the last one's block", x.kept(1999, 5), 19);
        check.index("no row 2000", () -> x.kept(2000, 0));
        check.equal("2200 rows again", x.read(0), 2000);
        check.equal("200 are not kept again", x.count(8), 200);
    }

    private void just2000() {
        ManyRows many = new ManyRows(21);
        TracePacks x = many.pack();
        check.equal("2000 rows", x.read(many.place(1)), 2000);
        check.equal("2000 rows: none is not kept", x.count(8), 0);
        check.equal("2000 rows: the last one's block", x.kept(1999, 5), 19);
        check.equal("1900 rows", x.read(many.place(2)), 1900);
        check.index("no row 1900", () -> x.kept(1900, 0));
        Blocks.putAll(x, Blocks.block(0, 0, 2, 32, 2, 64));
        check.equal("2002 rows", x.read(many.place(1)), 2000);
        check.equal("2002 rows: two are not kept", x.count(8), 2);
        check.equal("2002 rows: blocks", x.count(5), 21);
        x.choose(4, 15);
        check.equal("the last load alone", x.read(many.place(1)), 1);
        check.equal("the last load's block", x.kept(0, 5), 20);
    }

    /** The last row that is kept is in the midst of a block. */
    private void upTo2000OfOneKind() {
        TracePacks x = new ManyRows(22).pack();
        x.choose(1, 15);
        check.equal("2024 branches", x.read(0), 2000);
        check.equal("24 branches are not, nor the jumps", x.count(8), 24 + 22 * ManyRows.JUMPS);
        check.equal("the last one's block", x.kept(1999, 5), 21);
        check.equal("the first one of that block", x.kept(21 * ManyRows.BRANCHES, 5), 21);
        check.equal("the last one of the block before", x.kept(21 * ManyRows.BRANCHES - 1, 5), 20);
        check.index("no branch 2000", () -> x.kept(2000, 0));
    }

    private void othersDoNotCount() {
        check.about("if their kind and thread are chosen");
        TracePacks x = new ManyRows(22).pack();
        x.choose(2, 15);
        check.equal("jumps alone", x.read(0), 22 * ManyRows.JUMPS);
        check.equal("the last jump", x.kept(22 * ManyRows.JUMPS - 1, 1), 52 * ManyRows.JUMPS);
        check.equal("the last jump's block", x.kept(22 * ManyRows.JUMPS - 1, 5), 21);
        check.equal("the others", x.count(8), 22 * ManyRows.BRANCHES);
        x.choose(31, 2);
        check.equal("thread 1 alone", x.read(0), 600);
        check.equal("its last block", x.kept(599, 5), 21);
        check.equal("the others", x.count(8), 1600);
        x.choose(31, 0);
        check.equal("no thread", x.read(0), 0);
        check.equal("all others", x.count(8), 2200);
        x.choose(0, 15);
        check.equal("no kind", x.read(0), 0);
        x.choose(28, 15);
        check.equal("kinds that are not there", x.read(0), 0);
        check.equal("all others again", x.count(8), 2200);
    }

    /** The times go down from block to block: the last one that was kept comes first. */
    private void mergedUpTo2000() {
        check.about("MERGED: by time");
        ManyRows many = new ManyRows(22);
        TracePacks x = many.pack();
        x.read(0);
        for (int i = 0; i < 20; i++) {
            check.equal("the first row of block " + i, x.merged(1900 - 100 * i), 100 * i);
            check.equal("the last row of block " + i, x.merged(1999 - 100 * i), 100 * i + 99);
            check.equal("the time of block " + i, x.kept(100 * i, 4), many.time(i));
            check.equal("the thread of block " + i, x.kept(100 * i, 3), i % 4);
        }
        check.index("no row 2000", () -> x.merged(2000));
        x.read(many.place(21));
        check.equal("one block alone", x.merged(99), 99);
        check.index("no row 100", () -> x.merged(100));
    }

    private void timesAre(TracePacks x, int... want) {
        check.equal("rows", x.read(0), want.length);
        for (int k = 0; k < want.length; k++) {
            check.equal("time of row " + k, x.kept(k, 4), want[k]);
        }
    }

    private void timeOfTheBlock() {
        check.about("each with its thread and TIME: that of its thread's latest TIME row in the block (its own, of a "
            + "TIME), or the block's");
        timesAre(Blocks.packOf(Blocks.block(0, 0, 2, 7)), 0, 0);
        timesAre(Blocks.packOf(Blocks.block(2, 70, 2, 7)), 70, 70);
        timesAre(Blocks.packOf(Blocks.block(2, Integer.MAX_VALUE, 1, 3)), Integer.MAX_VALUE);
    }

    private void latestTimeRow() {
        timesAre(Blocks.packOf(Blocks.block(1, 70, 7, 3, 128, 0, 3, 128, 5, 64, 128, 1, 3)), 70, 70, 70, 75, 75, 76, 76);
        timesAre(Blocks.packOf(Blocks.block(1, 0, 2, 128, 255, 255, 255, 255, 7, 3)),
            Integer.MAX_VALUE, Integer.MAX_VALUE);
    }

    private void timeRowsThatAreNotChosen() {
        TracePacks x = Blocks.packOf(Blocks.block(1, 70, 4, 3, 128, 5, 3, 64));
        x.choose(15, 15);
        timesAre(x, 70, 75, 75);
        x.choose(16, 15);
        timesAre(x, 75);
    }

    private void timeOfAnotherBlock() {
        timesAre(Blocks.packOf(Blocks.joined(Blocks.block(1, 70, 2, 128, 5, 3), Blocks.block(1, 9, 1, 3),
            Blocks.block(2, 0, 2, 3, 128, 4))), 75, 75, 9, 0, 4);
    }
}
