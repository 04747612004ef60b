/** Promise 13. */
public final class CountTest {
    public static void main(String[] args) {
        Check check = new Check();
        TracePacks x = new TracePacks();
        int[] none = {-1, 9, 10, Integer.MIN_VALUE, Integer.MAX_VALUE};
        for (int what : none) {
            check.equal("count(" + what + ")", x.count(what), TracePacks.NONE);
        }
        x.row(0, 1, 0);
        x.row(1, 1, 0);
        counts(check, "two rows", x, 0, 2, 2, 0, 0, 0, 0, 0, 0);
        x.thread(1);
        x.row(0, 1, 0);
        counts(check, "another thread's row", x, 12, 1, 3, 1, 0, 0, 0, 0, 0);
        x.mark();
        counts(check, "closed", x, 22, 0, 3, 2, 0, 0, 0, 0, 0);
        x.read(0);
        counts(check, "read", x, 22, 0, 3, 2, 0, 2, 0, 3, 0);
        x.choose(2, 15);
        x.read(0);
        counts(check, "jumps alone", x, 22, 0, 3, 2, 0, 2, 0, 1, 2);
        x.put(126);
        counts(check, "a byte more", x, 23, 0, 3, 2, 0, 2, 0, 1, 2);
        x.read(1);
        counts(check, "read from 1", x, 23, 0, 3, 2, 11, 1, 1, 0, 1);
        x.read(23);
        counts(check, "read from the end", x, 23, 0, 3, 2, 0, 0, 0, 0, 0);
        x.cut(5);
        x.flip(0, 1);
        x.read(2);
        counts(check, "without a mark", x, 5, 0, 3, 2, 3, 0, 0, 0, 0);
        x.row(2, 0, 0);
        check.argument("a wrong row", () -> x.row(9, 0, 0));
        counts(check, "a row more", x, 5, 1, 4, 2, 3, 0, 0, 0, 0);
        check.end();
    }

    private static void counts(Check check, String what, TracePacks x, int... want) {
        for (int i = 0; i < want.length; i++) {
            check.equal(what + ": count(" + i + ")", x.count(i), want[i]);
        }
    }
}
