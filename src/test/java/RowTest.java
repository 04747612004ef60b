/** Promise 3, and how rows are written as bytes. */
public final class RowTest {
    private static final int MOST = Integer.MAX_VALUE;
    private static final int LEAST = Integer.MIN_VALUE;

    public static void main(String[] args) {
        Check check = new Check();
        wrongRows(check);
        wrongRowsDoNothing(check);
        hundredRows(check);
        branches(check);
        jumps(check);
        loads(check);
        stores(check);
        lastEight(check);
        times(check);
        nothingGoesOverToTheNextBlock(check);
        check.end();
    }

    private static void wrongRows(Check check) {
        TracePacks x = new TracePacks();
        int[][] wrong = {{-1, 0, 0}, {5, 0, 0}, {MOST, 0, 0}, {LEAST, 0, 0}, {0, 2, 0}, {0, -1, 0}, {0, LEAST, 0},
            {0, 1, 1}, {1, 0, 1}, {2, 0, -1}, {4, 0, 1}, {4, -1, 0}, {4, LEAST, 0}, {4, 5, LEAST}};
        for (int[] w : wrong) {
            check.argument("row(" + w[0] + ", " + w[1] + ", " + w[2] + ")", () -> x.row(w[0], w[1], w[2]));
        }
        check.equal("no row came", x.count(2), 0);
        check.equal("no block is open", x.count(1), 0);
        int[][] right = {{0, 0, 0}, {0, 1, 0}, {1, LEAST, 0}, {1, MOST, 0}, {2, LEAST, 0}, {3, MOST, LEAST},
            {3, -1, -1}, {4, 0, 0}, {4, MOST, 0}, {4, MOST, 0}};
        for (int i = 0; i < right.length; i++) {
            check.equal("right row " + i, x.row(right[i][0], right[i][1], right[i][2]), i + 1);
        }
        check.argument("below the latest time", () -> x.row(4, MOST - 1, 0));
    }

    private static void wrongRowsDoNothing(Check check) {
        TracePacks x = new TracePacks();
        x.row(4, 9, 0);
        x.thread(1);
        check.argument("a wrong row of another thread", () -> x.row(4, 20, 1));
        check.equal("the block is open still", x.count(1), 1);
        check.equal("none was closed", x.count(3), 0);
        check.equal("the time did not go on", x.row(4, 0, 0), 1);
        check.equal("now one was closed", x.count(3), 1);
    }

    private static void hundredRows(Check check) {
        TracePacks x = new TracePacks();
        for (int i = 1; i <= 100; i++) {
            check.equal("row " + i, x.row(2, 0, 0), i);
        }
        check.equal("100 rows stay open", x.count(0), 0);
        check.equal("row 101", x.row(2, 0, 0), 1);
        // p is (100 + 100 * 64) % 255, which is 125: one byte more for its shield.
        check.equal("100 rows, closed", x.count(0), 1 + 6 + 100 + 2 + 1);
        check.equal("byte of how many rows", x.byteAt(6), 100);
        check.equal("rows so far", x.count(2), 101);
    }

    /** Writes the rows into one block of a new object, and looks at the bytes of its rows. */
    private static void written(Check check, String what, int[][] rows, int... rowBytes) {
        TracePacks x = new TracePacks();
        for (int[] r : rows) {
            x.row(r[0], r[1], r.length > 2 ? r[2] : 0);
        }
        x.mark();
        check.bytes(what, x, 0, Blocks.block(0, 0, rows.length, rowBytes));
    }

    private static void branches(Check check) {
        written(check, "one branch", new int[][] {{0, 1}}, 3);
        written(check, "one not taken", new int[][] {{0, 0}}, 2);
        written(check, "two", new int[][] {{0, 1}, {0, 0}}, 6);
        written(check, "three", new int[][] {{0, 0}, {0, 0}, {0, 1}}, 9);
        written(check, "four", new int[][] {{0, 1}, {0, 0}, {0, 1}, {0, 1}}, 27);
        written(check, "five", new int[][] {{0, 1}, {0, 1}, {0, 1}, {0, 1}, {0, 0}}, 31, 2);
        written(check, "eight", new int[][] {{0, 0}, {0, 0}, {0, 0}, {0, 0}, {0, 1}, {0, 0}, {0, 0}, {0, 0}}, 16, 24);
        written(check, "a row between", new int[][] {{0, 1}, {0, 1}, {2, 0}, {0, 1}, {0, 0}, {0, 0}}, 7, 64, 12);
    }

    private static void jumps(Check check) {
        written(check, "to 0", new int[][] {{1, 0}}, 32, 0);
        written(check, "by differences", new int[][] {{1, 1000}, {1, 996}, {1, 996}}, 32, 208, 15, 32, 7, 32, 0);
        written(check, "one byte or two", new int[][] {{1, 63}, {1, -1}, {1, 63}, {1, -2}},
            32, 126, 32, 127, 32, 128, 1, 32, 129, 1);
        written(check, "least", new int[][] {{1, LEAST}}, 32, 255, 255, 255, 255, 15);
        written(check, "most", new int[][] {{1, MOST}}, 32, 254, 255, 255, 255, 15);
        written(check, "32 bits round", new int[][] {{1, MOST}, {1, LEAST}}, 32, 254, 255, 255, 255, 15, 32, 2);
    }

    private static void loads(Check check) {
        written(check, "stride 0 at first", new int[][] {{2, 0}, {2, 0}}, 64, 64);
        written(check, "strides", new int[][] {{2, 64}, {2, 128}, {2, 192}, {2, 191}, {2, 190}, {2, 190}, {2, 190}},
            65, 128, 1, 64, 64, 65, 1, 64, 65, 0, 64);
        written(check, "strides over the edge", new int[][] {{2, 1 << 30}, {2, LEAST}, {2, -(1 << 30)}, {2, 0}},
            65, 128, 128, 128, 128, 8, 64, 64, 64);
        written(check, "stores are apart", new int[][] {{2, 4}, {3, 1, 0}, {2, 8}}, 65, 8, 120, 2, 0, 0, 0, 0, 64);
    }

    private static void stores(Check check) {
        written(check, "stride 0, a new value", new int[][] {{3, 0, 0}}, 104, 0, 0, 0, 0);
        written(check, "values", new int[][] {{3, 8, 7}, {3, 16, 9}, {3, 24, 7}, {3, 24, 7}},
            120, 16, 0, 0, 0, 7, 104, 0, 0, 0, 9, 97, 112, 0);
        written(check, "negative values", new int[][] {{3, 0, -1}, {3, 0, LEAST}, {3, 0, 0x01020304}},
            104, 255, 255, 255, 255, 104, 128, 0, 0, 0, 104, 1, 2, 3, 4);
        written(check, "difference first, then the value", new int[][] {{3, -1, 0x0a0b0c0d}}, 120, 1, 10, 11, 12, 13);
    }

    private static void lastEight(Check check) {
        int[][] rows = new int[12][];
        for (int i = 0; i < 9; i++) {
            rows[i] = new int[] {3, 0, i};
        }
        rows[9] = new int[] {3, 0, 1};
        rows[10] = new int[] {3, 0, 2};
        rows[11] = new int[] {3, 0, 0};
        int[] bytes = new int[9 * 5 + 2 + 5];
        for (int i = 0; i < 9; i++) {
            bytes[5 * i] = 104;
            bytes[5 * i + 4] = i;
        }
        bytes[45] = 96 + 7;
        bytes[46] = 96 + 7;
        bytes[47] = 104;
        written(check, "0 is forgotten, 1 and 2 are last", rows, bytes);
        written(check, "one that was used is the latest", new int[][] {{3, 0, 5}, {3, 0, 6}, {3, 0, 7}, {3, 0, 5},
            {3, 0, 7}, {3, 0, 6}, {3, 0, 6}}, 104, 0, 0, 0, 5, 104, 0, 0, 0, 6, 104, 0, 0, 0, 7, 98, 97, 98, 96);
    }

    private static void times(Check check) {
        written(check, "steps", new int[][] {{4, 500}, {4, 500}, {4, 627}, {4, 755}},
            128, 244, 3, 128, 0, 128, 127, 128, 128, 1);
        written(check, "the latest", new int[][] {{4, MOST}}, 128, 255, 255, 255, 255, 7);
        TracePacks x = new TracePacks();
        x.row(4, 0x7d7e0102, 0);
        int from = x.mark();
        x.row(4, 0x7d7e0103, 0);
        x.mark();
        check.bytes("begins at the thread's time", x, from, Blocks.block(0, 0x7d7e0102, 1, 128, 1));
    }

    private static void nothingGoesOverToTheNextBlock(Check check) {
        TracePacks x = new TracePacks();
        int from = 0;
        for (int i = 0; i < 2; i++) {
            x.row(1, 10, 0);
            x.row(2, 3, 0);
            x.row(3, 4, 5);
            x.row(0, 1, 0);
            x.mark();
            int[] bytes = Blocks.block(0, 0, 4, 32, 20, 65, 6, 120, 8, 0, 0, 0, 5, 3);
            check.bytes("block " + i, x, from, bytes);
            from += bytes.length;
        }
    }
}
