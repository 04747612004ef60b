import java.util.Arrays;

/** The terms: rows, and their bytes inside a block. */
public final class TermRowsTest {
    private static final int MOST = Integer.MAX_VALUE;
    private static final int LEAST = Integer.MIN_VALUE;

    private final Check check = new Check();

    public static void main(String[] args) {
        TermRowsTest test = new TermRowsTest();
        test.outcomes();
        test.fourByFour();
        test.oneBehindTheOther();
        test.branchesAtTheEndOfABlock();
        test.jumps();
        test.loads();
        test.stores();
        test.lastEight();
        test.eachNumberOfAValue();
        test.latestFirst();
        test.times();
        test.firstInEachBlock();
        test.check.end();
    }

    private void outcomes() {
        check.about("the five bits are a 1 and behind it (lower) the one to four outcomes, the first one highest");
        for (int branches = 1; branches <= 4; branches++) {
            for (int bits = 0; bits < 1 << branches; bits++) {
                int[][] rows = new int[branches][];
                for (int i = 0; i < branches; i++) {
                    rows[i] = new int[] {0, bits >> branches - 1 - i & 1};
                }
                check.written(branches + " branches, " + bits, rows, (1 << branches) + bits);
            }
        }
    }

    /** As many branches that are not taken, but for the last one. */
    private static int[][] branches(int howMany) {
        int[][] rows = new int[howMany][];
        for (int i = 0; i < howMany; i++) {
            rows[i] = new int[] {0, i == howMany - 1 ? 1 : 0};
        }
        return rows;
    }

    private void fourByFour() {
        check.about("BRANCHES that stand one behind the other go four by four (those that are left over by themselves)");
        check.written("five", branches(5), 16, 3);
        check.written("six", branches(6), 16, 5);
        check.written("seven", branches(7), 16, 9);
        check.written("eight", branches(8), 16, 17);
        check.written("nine", branches(9), 16, 16, 3);
        int[] bytes = new int[25];
        Arrays.fill(bytes, 16);
        bytes[24] = 9;
        check.written("99", branches(99), bytes);
        bytes[24] = 17;
        check.written("100", branches(100), bytes);
    }

    private void oneBehindTheOther() {
        check.written("a row between", new int[][] {{0, 1}, {0, 1}, {2, 0}, {0, 1}, {0, 0}, {0, 0}}, 7, 64, 12);
        check.written("a row behind four", new int[][] {{0, 1}, {0, 1}, {0, 1}, {0, 1}, {2, 0}, {0, 0}}, 31, 64, 2);
        check.written("each kind between", new int[][] {{0, 1}, {1, 0}, {0, 0}, {2, 0}, {0, 1}, {3, 0, 0}, {0, 0},
            {4, 0}, {0, 1}}, 3, 32, 0, 2, 64, 3, 104, 0, 0, 0, 0, 2, 128, 0, 3);
        TracePacks x = new TracePacks();
        x.row(0, 1, 0);
        check.argument("a refused row between", () -> x.row(0, 2, 0));
        x.thread(1);
        x.thread(0);
        x.row(0, 1, 0);
        x.mark();
        check.bytes("nothing stood between", x, 0, Blocks.block(0, 0, 2, 7));
    }

    private void branchesAtTheEndOfABlock() {
        TracePacks x = new TracePacks();
        Blocks.write(x, branches(2));
        int first = x.mark();
        Blocks.write(x, branches(2));
        x.mark();
        check.bytes("those of the next block go by themselves", x, first, Blocks.block(0, 0, 2, 5));
        TracePacks y = new TracePacks();
        y.row(2, 0, 0);
        Blocks.writeMany(y, 99, 0, 1);
        int before = y.count(0);
        Blocks.writeMany(y, 3, 0, 1);
        check.equal("none was closed with 100", before, 0);
        // 99 branches are 24 times four and three; the 102nd row is the second one of its block.
        check.equal("the three left over", y.byteAt(1 + 6 + 1 + 24), 15);
        int from = y.count(0);
        y.mark();
        check.bytes("three more", y, from, Blocks.block(0, 0, 3, 15));
    }

    private void jumps() {
        check.about("JUMP: five bits 0, and the difference from where the block's jump before went (0 at first).");
        check.written("0 at first", new int[][] {{1, 0}}, 32, 0);
        check.written("to the same again", new int[][] {{1, 1000}, {1, 996}, {1, 996}}, 32, 208, 15, 32, 7, 32, 0);
        check.written("places of others do not count", new int[][] {{2, 50}, {3, 60, 0}, {1, 4}, {2, 100}, {1, 5}},
            65, 100, 120, 120, 0, 0, 0, 0, 32, 8, 64, 32, 2);
    }

    private void loads() {
        check.about("LOAD, with the last LOAD's place and stride (0 both at first in a block): with the same stride "
            + "again five bits 0; else 1, and the difference from that place, which is the stride then.");
        check.written("0 both at first", new int[][] {{2, 0}, {2, 0}}, 64, 64);
        check.written("another one at first", new int[][] {{2, 1}}, 65, 2);
        check.written("strides", new int[][] {{2, 64}, {2, 128}, {2, 192}, {2, 191}, {2, 190}, {2, 190}, {2, 190}},
            65, 128, 1, 64, 64, 65, 1, 64, 65, 0, 64);
        check.written("back to 0 is a stride", new int[][] {{2, 8}, {2, 0}, {2, -8}}, 65, 16, 65, 15, 64);
        check.written("strides round the edge", new int[][] {{2, 1 << 30}, {2, LEAST}, {2, -(1 << 30)}, {2, 0}},
            65, 128, 128, 128, 128, 8, 64, 64, 64);
        check.written("the least stride again", new int[][] {{2, LEAST}, {2, 0}, {2, LEAST}},
            65, 255, 255, 255, 255, 15, 64, 64);
        check.written("a stride of -1 round the edge", new int[][] {{2, LEAST + 1}, {2, LEAST}, {2, MOST}},
            65, 253, 255, 255, 255, 15, 65, 1, 64);
        check.written("stores are apart", new int[][] {{2, 4}, {3, 1, 0}, {2, 8}}, 65, 8, 120, 2, 0, 0, 0, 0, 64);
    }

    private void stores() {
        check.about("STORE: the five bits are 16 if its place (by the STOREs' own place and stride) is not the same "
            + "stride again");
        check.written("0 both at first", new int[][] {{3, 0, 0}}, 104, 0, 0, 0, 0);
        check.written("strides", new int[][] {{3, 8, 7}, {3, 16, 9}, {3, 24, 7}, {3, 24, 7}, {3, 24, 7}},
            120, 16, 0, 0, 0, 7, 104, 0, 0, 0, 9, 97, 112, 0, 96);
        check.written("strides round the edge", new int[][] {{3, 1 << 30, 1}, {3, LEAST, 1}, {3, -(1 << 30), 1},
            {3, 0, 1}}, 120, 128, 128, 128, 128, 8, 0, 0, 0, 1, 96, 96, 96);
        check.written("loads are apart", new int[][] {{3, 4, 1}, {2, 1}, {3, 8, 1}}, 120, 8, 0, 0, 0, 1, 65, 2, 96);
        check.about("then the difference of the place, if 16; then the value (four bytes, the highest first), if 8");
        check.written("both", new int[][] {{3, -1, 0x0a0b0c0d}}, 120, 1, 10, 11, 12, 13);
        check.written("the least and most values", new int[][] {{3, 0, -1}, {3, 0, LEAST}, {3, 0, MOST}},
            104, 255, 255, 255, 255, 104, 128, 0, 0, 0, 104, 127, 255, 255, 255);
        check.written("-1 is a value like others", new int[][] {{3, 0, -1}, {3, 0, -1}, {3, 0, 0}, {3, 0, -1}},
            104, 255, 255, 255, 255, 96, 104, 0, 0, 0, 0, 97);
    }

    /** Stores of the values 0, 1 and so on, and behind them one more. */
    private static int[][] storesAnd(int stores, int place, int value) {
        int[][] rows = new int[stores + 1][];
        for (int i = 0; i < stores; i++) {
            rows[i] = new int[] {3, 0, i};
        }
        rows[stores] = new int[] {3, place, value};
        return rows;
    }

    private void lastEight() {
        check.about("0 to 7 for a value that is among the LAST EIGHT");
        check.written("0 is not there at first", storesAnd(0, 0, 0), 104, 0, 0, 0, 0);
        for (int stores = 1; stores <= 12; stores++) {
            int[] bytes = Blocks.storesOfNewValues(stores);
            int[] last = stores <= 8 ? new int[] {96 + stores - 1} : new int[] {104, 0, 0, 0, 0};
            check.written("the first one of " + stores, storesAnd(stores, 0, 0), Blocks.joined(bytes, last));
        }
        check.written("one that was forgotten is there again", new int[][] {{3, 0, 0}, {3, 0, 1}, {3, 0, 2}, {3, 0, 3},
            {3, 0, 4}, {3, 0, 5}, {3, 0, 6}, {3, 0, 7}, {3, 0, 8}, {3, 0, 0}, {3, 0, 0}, {3, 0, 1}, {3, 0, 8}},
            Blocks.joined(Blocks.storesOfNewValues(9), new int[] {104, 0, 0, 0, 0, 96, 104, 0, 0, 0, 1, 98}));
    }

    private void eachNumberOfAValue() {
        for (int number = 0; number < 8; number++) {
            int[] eight = Blocks.storesOfNewValues(8);
            check.written("number " + number, storesAnd(8, 0, 7 - number),
                Blocks.joined(eight, new int[] {96 + number}));
            check.written("number " + number + " at another place", storesAnd(8, 3, 7 - number),
                Blocks.joined(eight, new int[] {112 + number, 6}));
        }
        check.written("a ninth value at another place", storesAnd(8, 3, 8),
            Blocks.joined(Blocks.storesOfNewValues(8), new int[] {120, 6, 0, 0, 0, 8}));
    }

    private void latestFirst() {
        check.about("(different ones of the block's stores, the latest one first)");
        check.written("one that was used again is the latest", new int[][] {{3, 0, 5}, {3, 0, 6}, {3, 0, 7},
            {3, 0, 5}, {3, 0, 7}, {3, 0, 6}, {3, 0, 6}}, 104, 0, 0, 0, 5, 104, 0, 0, 0, 6, 104, 0, 0, 0, 7,
            98, 97, 98, 96);
        // With 0 used again it is 1 that the ninth one drives out.
        check.written("the one that is longest ago goes", new int[][] {{3, 0, 0}, {3, 0, 1}, {3, 0, 2}, {3, 0, 3},
            {3, 0, 4}, {3, 0, 5}, {3, 0, 6}, {3, 0, 7}, {3, 0, 0}, {3, 0, 8}, {3, 0, 0}, {3, 0, 2}, {3, 0, 1}},
            Blocks.joined(Blocks.storesOfNewValues(8),
                new int[] {96 + 7, 104, 0, 0, 0, 8, 96 + 1, 96 + 7, 104, 0, 0, 0, 1}));
        check.written("the same one again and again takes one place", new int[][] {{3, 0, 4}, {3, 0, 9}, {3, 0, 9},
            {3, 0, 9}, {3, 0, 4}}, 104, 0, 0, 0, 4, 104, 0, 0, 0, 9, 96, 96, 97);
    }

    private void times() {
        check.about("TIME: five bits 0, and the number of steps from the time before.");
        check.written("no step", new int[][] {{4, 0}}, 128, 0);
        check.written("steps", new int[][] {{4, 500}, {4, 500}, {4, 627}, {4, 755}},
            128, 244, 3, 128, 0, 128, 127, 128, 128, 1);
        check.written("to the latest one, and no step more", new int[][] {{4, 1}, {4, MOST}, {4, MOST}},
            128, 1, 128, 254, 255, 255, 255, 7, 128, 0);
        TracePacks x = new TracePacks();
        x.row(4, 0x7d7e0102, 0);
        int from = x.mark();
        x.row(4, 0x7d7e0103, 0);
        x.mark();
        check.bytes("at first from the block's time", x, from, Blocks.block(0, 0x7d7e0102, 1, 128, 1));
    }

    private void firstInEachBlock() {
        check.about("(0 both at first in a block)");
        TracePacks x = new TracePacks();
        int from = 0;
        for (int i = 0; i < 2; i++) {
            Blocks.write(x, new int[][] {{1, 10}, {2, 3}, {3, 4, 5}, {0, 1}});
            x.mark();
            int[] bytes = Blocks.block(0, 0, 4, 32, 20, 65, 6, 120, 8, 0, 0, 0, 5, 3);
            check.bytes("block " + i, x, from, bytes);
            from += bytes.length;
        }
        TracePacks y = new TracePacks();
        Blocks.write(y, new int[][] {{2, 8}, {2, 16}, {3, 8, 0}, {3, 16, 0}});
        from = y.mark();
        Blocks.write(y, new int[][] {{2, 24}, {2, 24}, {3, 0, 0}});
        y.mark();
        check.bytes("the stride is 0, too", y, from, Blocks.block(0, 0, 3, 65, 48, 65, 0, 104, 0, 0, 0, 0));
    }
}
