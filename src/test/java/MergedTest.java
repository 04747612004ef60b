import java.util.ArrayList;
import java.util.Comparator;
import java.util.List;

/** Promise 12. */
public final class MergedTest {
    public static void main(String[] args) {
        Check check = new Check();
        ofOneTimeByThread(check);
        backInTime(check);
        many(check);
        check.end();
    }

    private static void ofOneTimeByThread(Check check) {
        TracePacks x = new TracePacks();
        check.index("nothing was read", () -> x.merged(0));
        for (int t = 3; t >= 0; t--) {
            x.thread(t);
            x.row(1, t, 0);
            x.row(1, t + 10, 0);
        }
        x.mark();
        x.read(0);
        int[] want = {6, 7, 4, 5, 2, 3, 0, 1};
        for (int k = 0; k < want.length; k++) {
            check.equal("merged(" + k + ")", x.merged(k), want[k]);
        }
        check.index("merged(8)", () -> x.merged(8));
        check.index("merged(-1)", () -> x.merged(-1));
        check.index("merged(1999)", () -> x.merged(1999));
        check.index("merged(least)", () -> x.merged(Integer.MIN_VALUE));
        x.choose(31, 6);
        check.equal("two threads", x.read(0), 4);
        check.equal("merged(0) of two threads", x.merged(0), 2);
        check.index("merged(4) of two threads", () -> x.merged(4));
    }

    /** Blocks that were put can be of one thread and go back in time: the time is first all the same. */
    private static void backInTime(Check check) {
        TracePacks x = new TracePacks();
        Blocks.putAll(x, Blocks.block(1, 50, 2, 7));
        Blocks.putAll(x, Blocks.block(1, 20, 3, 3, 128, 30, 3));
        Blocks.putAll(x, Blocks.block(0, 50, 1, 3));
        Blocks.putAll(x, Blocks.block(2, Integer.MAX_VALUE, 1, 3));
        Blocks.putAll(x, Blocks.block(3, 0, 1, 3));
        check.equal("rows", x.read(0), 8);
        int[] want = {7, 2, 5, 0, 1, 3, 4, 6};
        for (int k = 0; k < want.length; k++) {
            check.equal("back in time: merged(" + k + ")", x.merged(k), want[k]);
        }
    }

    private static void many(Check check) {
        for (int rows = 1; rows <= 130; rows += 3) {
            TracePacks x = new TracePacks();
            int seed = rows;
            int[] times = new int[4];
            for (int i = 0; i < rows; i++) {
                seed = seed * 1103515245 + 12345;
                int t = seed >>> 16 & 3;
                times[t] += seed >>> 20 & 3;
                x.thread(t);
                x.row(4, times[t], 0);
            }
            x.mark();
            x.read(0);
            sorted(check, x, rows);
        }
    }

    private static void sorted(Check check, TracePacks x, int rows) {
        int[][] all = new int[rows][];
        List<Integer> order = new ArrayList<>();
        for (int i = 0; i < rows; i++) {
            all[i] = new int[] {x.kept(i, 1), x.kept(i, 3)};
            order.add(i);
        }
        order.sort(Comparator.<Integer>comparingInt(i -> all[i][0]).thenComparingInt(i -> all[i][1]));
        for (int i = 0; i < rows; i++) {
            check.equal(rows + " rows: merged(" + i + ")", x.merged(i), order.get(i));
        }
    }
}
