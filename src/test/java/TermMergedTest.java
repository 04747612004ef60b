import java.util.ArrayList;
import java.util.Comparator;
import java.util.List;

/** The terms: merged. */
public final class TermMergedTest {
    private static final int MOST = Integer.MAX_VALUE;

    private final Check check = new Check();

    public static void main(String[] args) {
        TermMergedTest test = new TermMergedTest();
        test.byTime();
        test.ofOneTimeByThread();
        test.ofOneThreadAsTheyWereRead();
        test.fewRows();
        test.manyRows();
        test.check.end();
    }

    private void merges(String what, int[] pack, int... want) {
        TracePacks x = Blocks.packOf(pack);
        check.equal(what + ": rows", x.read(0), want.length);
        check.merged(what, x, want);
    }

    private void byTime() {
        check.about("MERGED: by time");
        merges("going up", Blocks.joined(Blocks.block(3, 1, 1, 3), Blocks.block(2, 2, 1, 3), Blocks.block(1, 3, 1, 3)),
            0, 1, 2);
        merges("going down", Blocks.joined(Blocks.block(1, 3, 1, 3), Blocks.block(2, 2, 1, 3),
            Blocks.block(3, 1, 1, 3)), 2, 1, 0);
        merges("0 and the latest", Blocks.joined(Blocks.block(0, MOST, 1, 3), Blocks.block(1, 0, 1, 3),
            Blocks.block(2, MOST - 1, 1, 3)), 1, 2, 0);
        merges("one thread that goes back in time", Blocks.joined(Blocks.block(1, 50, 2, 7),
            Blocks.block(1, 20, 3, 3, 128, 30, 3), Blocks.block(0, 50, 1, 3), Blocks.block(2, MOST, 1, 3),
            Blocks.block(3, 0, 1, 3)), 7, 2, 5, 0, 1, 3, 4, 6);
    }

    private void ofOneTimeByThread() {
        check.about("of one time by thread");
        TracePacks x = new TracePacks();
        for (int t = 3; t >= 0; t--) {
            x.thread(t);
            x.row(1, t, 0);
            x.row(1, t + 10, 0);
        }
        x.mark();
        x.read(0);
        check.merged("four threads", x, 6, 7, 4, 5, 2, 3, 0, 1);
        x.choose(31, 6);
        check.equal("two threads: rows", x.read(0), 4);
        check.merged("two threads", x, 2, 3, 0, 1);
        merges("a time by a TIME, and a block's", Blocks.joined(Blocks.block(3, 4, 1, 3),
            Blocks.block(1, 1, 2, 128, 3, 3), Blocks.block(2, 4, 1, 128, 0)), 1, 2, 3, 0);
    }

    private void ofOneThreadAsTheyWereRead() {
        check.about("of one thread as they were read");
        merges("in one block", Blocks.block(2, 9, 5, 17, 3), 0, 1, 2, 3, 4);
        merges("in blocks apart", Blocks.joined(Blocks.block(2, 9, 2, 7), Blocks.block(1, 9, 2, 7),
            Blocks.block(2, 9, 2, 7), Blocks.block(1, 9, 1, 3)), 2, 3, 6, 0, 1, 4, 5);
        merges("a TIME that takes no step", Blocks.block(0, 9, 4, 3, 128, 0, 3, 128, 0), 0, 1, 2, 3);
    }

    private void fewRows() {
        merges("none", new int[] {}, new int[] {});
        merges("one", Blocks.block(3, 7, 1, 3), 0);
        merges("two", Blocks.joined(Blocks.block(3, 7, 1, 3), Blocks.block(0, 7, 1, 3)), 1, 0);
        merges("three", Blocks.joined(Blocks.block(3, 7, 1, 3), Blocks.block(0, 7, 1, 3), Blocks.block(0, 6, 1, 3)),
            2, 1, 0);
    }

    private void manyRows() {
        check.about("MERGED: by time, of one time by thread, of one thread as they were read.");
        for (int rows = 1; rows <= 150; rows += 3) {
            TracePacks x = new TracePacks();
            List<int[]> written = new ArrayList<>();
            int seed = rows;
            int[] times = new int[4];
            for (int i = 0; i < rows; i++) {
                seed = seed * 1103515245 + 12345;
                int t = seed >>> 16 & 3;
                times[t] += seed >>> 20 & 3;
                x.thread(t);
                x.row(4, times[t], 0);
                written.add(new int[] {times[t], t, i});
            }
            x.mark();
            x.read(0);
            written.sort(Comparator.<int[]>comparingInt(w -> w[0]).thenComparingInt(w -> w[1]));
            check.merged(rows + " rows", x, written.stream().mapToInt(w -> w[2]).toArray());
        }
    }
}
