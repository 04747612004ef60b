/** Promise 1. */
public final class NewObjectTest {
    public static void main(String[] args) {
        Check check = new Check();
        TracePacks x = new TracePacks();
        for (int what = 0; what <= 8; what++) {
            check.equal("count(" + what + ")", x.count(what), 0);
        }
        check.index("no byte", () -> x.byteAt(0));
        check.index("no row was kept", () -> x.kept(0, 0));
        check.index("no row is merged", () -> x.merged(0));
        check.equal("mark() without a block", x.mark(), 0);
        check.equal("no block was closed", x.count(3), 0);
        check.equal("all are chosen", x.choose(31, 15), 31 + 32 * 15);
        check.equal("the thread", x.thread(0), 0);
        check.equal("reading nothing", x.read(0), 0);
        timesBeginAtNothing(check);
        objectsAreApart(check);
        check.end();
    }

    private static void timesBeginAtNothing(Check check) {
        for (int t = 0; t < 4; t++) {
            TracePacks x = new TracePacks();
            x.thread(t);
            check.argument("a time below 0", () -> x.row(4, -1, 0));
            check.equal("time 0", x.row(4, 0, 0), 1);
        }
    }

    private static void objectsAreApart(Check check) {
        TracePacks x = new TracePacks();
        TracePacks y = new TracePacks();
        x.thread(2);
        x.row(4, 7, 0);
        x.mark();
        x.choose(0, 0);
        check.equal("another object's pack", y.count(0), 0);
        check.equal("another object's thread", y.thread(1), 0);
        check.equal("another object's choice", y.choose(1, 1), 511);
    }
}
