/** Promise 9. */
public final class ChooseTest {
    public static void main(String[] args) {
        Check check = new Check();
        TracePacks x = new TracePacks();
        check.equal("before: all", x.choose(0, 0), 511);
        check.equal("before: none", x.choose(31, 0), 0);
        check.equal("before: kinds alone", x.choose(0, 15), 31);
        check.equal("before: threads alone", x.choose(5, 9), 480);
        check.argument("kinds 32", () -> x.choose(32, 0));
        check.argument("kinds -1", () -> x.choose(-1, 0));
        check.argument("threads 16", () -> x.choose(0, 16));
        check.argument("threads -1", () -> x.choose(0, -1));
        check.argument("both", () -> x.choose(Integer.MIN_VALUE, Integer.MAX_VALUE));
        check.equal("wrong ones change nothing", x.choose(31, 15), 5 + 32 * 9);
        eachKindAndThread(check);
        check.end();
    }

    /** Each thread has two rows of each kind; all 512 choices are tried, on several objects. */
    private static void eachKindAndThread(Check check) {
        for (int threads = 0; threads < 16; threads++) {
            TracePacks x = new TracePacks();
            for (int i = 0; i < 40; i++) {
                x.thread(i / 10);
                x.row(i % 5, i % 5 == 0 ? 1 : i, 0);
            }
            x.mark();
            for (int kinds = 0; kinds < 32; kinds++) {
                x.choose(kinds, threads);
                int want = 2 * Integer.bitCount(kinds) * Integer.bitCount(threads);
                String what = "kinds " + kinds + ", threads " + threads;
                check.equal(what, x.read(0), want);
                check.equal(what + ", kept", x.count(7), want);
                check.equal(what + ", not kept", x.count(8), 40 - want);
                check.equal(what + ", blocks", x.count(5), 4);
                if (want > 0) {
                    check.equal(what + ", first kind", x.kept(0, 0), Integer.numberOfTrailingZeros(kinds));
                    check.equal(what + ", first thread", x.kept(0, 3), Integer.numberOfTrailingZeros(threads));
                    int lastThread = 31 - Integer.numberOfLeadingZeros(threads);
                    check.equal(what + ", last thread", x.kept(want - 1, 3), lastThread);
                    check.equal(what + ", last one's block", x.kept(want - 1, 5), lastThread);
                }
            }
        }
    }
}
