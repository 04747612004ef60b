/** The example of README.md: each call answers what stands behind it there. */
public final class ReadmeTest {
    private final Check check = new Check();

    public static void main(String[] args) {
        ReadmeTest test = new ReadmeTest();
        test.example();
        test.check.end();
    }

    private void example() {
        check.about("README.md, Use");
        TracePacks x = new TracePacks();
        check.equal("row(0, 1, 0)", x.row(0, 1, 0), 1);
        check.equal("row(3, 64, 7)", x.row(3, 64, 7), 2);
        check.equal("thread(1)", x.thread(1), 0);
        check.equal("row(4, 20, 0)", x.row(4, 20, 0), 1);
        check.equal("mark()", x.mark(), 28);

        check.equal("read(0)", x.read(0), 3);
        check.equal("kept(1, 1)", x.kept(1, 1), 64);
        check.equal("kept(1, 2)", x.kept(1, 2), 7);
        check.equal("kept(2, 4)", x.kept(2, 4), 20);
        check.equal("merged(2)", x.merged(2), 2);

        check.equal("flip(3, 1)", x.flip(3, 1), 1);
        check.equal("read(0), a block broken", x.read(0), 1);
        check.equal("count(6)", x.count(6), 1);

        check.equal("choose(8, 15)", x.choose(8, 15), 511);
        check.equal("flip(3, 1) again", x.flip(3, 1), 0);
        check.equal("read(0), stores alone", x.read(0), 1);
        check.equal("count(8)", x.count(8), 2);
    }
}
