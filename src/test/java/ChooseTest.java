/** Promise 9. */
public final class ChooseTest {
    private final Check check = new Check();

    public static void main(String[] args) {
        ChooseTest test = new ChooseTest();
        test.thoseBefore();
        test.refusedKinds();
        test.refusedThreads();
        test.eachKindAndThread();
        test.check.end();
    }

    private void thoseBefore() {
        check.about("Kinds and threads that are chosen, as bits: those before, kinds + 32 * threads.");
        TracePacks x = new TracePacks();
        check.equal("before: all", x.choose(0, 0), 511);
        check.equal("before: none", x.choose(31, 0), 0);
        check.equal("before: kinds alone", x.choose(0, 15), 31);
        check.equal("before: threads alone", x.choose(5, 9), 480);
        check.equal("before: some", x.choose(31, 15), 5 + 32 * 9);
        check.equal("before: all again", x.choose(31, 15), 511);
    }

    private void refusedKinds() {
        check.about("IllegalArgumentException, when kinds are not 0 .. 31");
        TracePacks x = new TracePacks();
        x.choose(5, 9);
        for (int kinds : new int[] {32, 63, -1, Integer.MIN_VALUE, Integer.MAX_VALUE}) {
            check.argument("kinds " + kinds, () -> x.choose(kinds, 15));
        }
        check.equal("nothing is changed", x.choose(31, 15), 5 + 32 * 9);
    }

    private void refusedThreads() {
        check.about("or threads not 0 .. 15");
        TracePacks x = new TracePacks();
        x.choose(5, 9);
        for (int threads : new int[] {16, 31, -1, Integer.MIN_VALUE, Integer.MAX_VALUE}) {
            check.argument("threads " + threads, () -> x.choose(31, threads));
            check.argument("neither, threads " + threads, () -> x.choose(-1, threads));
        }
        check.equal("nothing is changed", x.choose(31, 15), 5 + 32 * 9);
    }

    /** Each thread has two rows of each kind; all 512 choices are tried, on several objects. */
    private void eachKindAndThread() {
        check.about("if their kind and thread are chosen");
        for (int threads = 0; threads < 16; threads++) {
            TracePacks x = new TracePacks();
            for (int i = 0; i < 40; i++) {
                x.thread(i / 10);
                x.row(i % 5, i % 5 == 0 ? 1 : i, 0);
            }
            x.mark();
            for (int kinds = 0; kinds < 32; kinds++) {
                x.choose(kinds, threads);
                chosen(x, kinds, threads);
            }
        }
    }

    private void chosen(TracePacks x, int kinds, int threads) {
        int want = 2 * Integer.bitCount(kinds) * Integer.bitCount(threads);
        String what = "kinds " + kinds + ", threads " + threads;
        check.equal(what, x.read(0), want);
        check.equal(what + ", kept", x.count(7), want);
        check.equal(what + ", not kept", x.count(8), 40 - want);
        check.equal(what + ", blocks", x.count(5), 4);
        if (want > 0) {
            int lastThread = 31 - Integer.numberOfLeadingZeros(threads);
            check.equal(what + ", first kind", x.kept(0, 0), Integer.numberOfTrailingZeros(kinds));
            check.equal(what + ", first thread", x.kept(0, 3), Integer.numberOfTrailingZeros(threads));
            check.equal(what + ", last kind", x.kept(want - 1, 0), 31 - Integer.numberOfLeadingZeros(kinds));
            check.equal(what + ", last thread", x.kept(want - 1, 3), lastThread);
            check.equal(what + ", last one's block", x.kept(want - 1, 5), lastThread);
        }
    }
}
