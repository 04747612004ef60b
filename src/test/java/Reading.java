/** Reads packs that have one block alone, right or broken. */
final class Reading {
    private final Check check;

    Reading(Check check) {
        this.check = check;
    }

    void right(String what, int rows, int... pack) {
        TracePacks x = Blocks.packOf(pack);
        check.equal(what + ": read(0)", x.read(0), rows);
        counts(what, x, 1, 0, rows);
    }

    void broken(String what, int... pack) {
        TracePacks x = Blocks.packOf(pack);
        check.equal(what + ": read(0)", x.read(0), 0);
        counts(what, x, 0, 1, 0);
    }

    private void counts(String what, TracePacks x, int blocks, int broken, int rows) {
        check.equal(what + ": blocks", x.count(5), blocks);
        check.equal(what + ": broken ones", x.count(6), broken);
        check.equal(what + ": rows kept", x.count(7), rows);
        check.equal(what + ": rows not kept", x.count(8), 0);
    }

    void rightRows(String what, int rows, int... rowBytes) {
        right(what, rows, Blocks.block(1, 5, rows, rowBytes));
    }

    void brokenRows(String what, int rows, int... rowBytes) {
        broken(what, Blocks.block(1, 5, rows, rowBytes));
    }

    /** Broken by itself, and behind two branches as well, whether it is counted as a row or not. */
    void brokenRow(String what, int... rowBytes) {
        brokenRows(what, 1, rowBytes);
        int[] behind = Blocks.joined(new int[] {6}, rowBytes);
        brokenRows(what + ", behind two branches", 3, behind);
        brokenRows(what + ", behind two branches and not counted", 2, behind);
    }
}
