import java.util.Arrays;

/** Promise 10: reading from anywhere, and what is broken. */
public final class ReadTest {
    private static final int MOST = Integer.MAX_VALUE;

    private final Check check = new Check();

    public static void main(String[] args) {
        ReadTest test = new ReadTest();
        test.from();
        test.between();
        test.shields();
        test.sums();
        test.heads();
        test.howMany();
        test.branches();
        test.numbers();
        test.fiveBits();
        test.times();
        test.values();
        test.otherWays();
        test.longInsides();
        test.nothingIsKeptForAnotherBlock();
        test.whatWasReadBeforeIsGone();
        test.check.end();
    }

    private void right(String what, int rows, int... pack) {
        TracePacks x = Blocks.packOf(pack);
        check.equal(what + ": rows", x.read(0), rows);
        check.equal(what + ": blocks", x.count(5), 1);
        check.equal(what + ": broken ones", x.count(6), 0);
    }

    private void broken(String what, int... pack) {
        TracePacks x = Blocks.packOf(pack);
        check.equal(what + ": rows", x.read(0), 0);
        check.equal(what + ": blocks", x.count(5), 0);
        check.equal(what + ": broken ones", x.count(6), 1);
        check.equal(what + ": rows not kept", x.count(8), 0);
    }

    private void rightRows(String what, int rows, int... rowBytes) {
        right(what, rows, Blocks.block(1, 5, rows, rowBytes));
    }

    private void brokenRows(String what, int rows, int... rowBytes) {
        broken(what, Blocks.block(1, 5, rows, rowBytes));
    }

    /** Broken by itself, and behind two branches as well, whether it is counted as a row or not. */
    private void brokenRow(String what, int... rowBytes) {
        brokenRows(what, 1, rowBytes);
        int[] behind = new int[rowBytes.length + 1];
        behind[0] = 6;
        System.arraycopy(rowBytes, 0, behind, 1, rowBytes.length);
        brokenRows(what + ", behind two branches", 3, behind);
        brokenRows(what + ", behind two branches and not counted", 2, behind);
    }

    private void from() {
        TracePacks x = new TracePacks();
        x.row(0, 1, 0);
        x.row(0, 1, 0);
        x.mark();
        x.row(0, 1, 0);
        int length = x.mark();
        check.equal("from 0", x.read(0), 3);
        check.equal("from 0: passed over", x.count(4), 0);
        check.equal("from 1", x.read(1), 1);
        check.equal("from 1: passed over", x.count(4), 9);
        check.equal("from 10", x.read(10), 1);
        check.equal("from 10: passed over", x.count(4), 0);
        check.equal("from 11", x.read(11), 0);
        check.equal("from 11: passed over, without a mark", x.count(4), 9);
        check.equal("from 11: broken ones", x.count(6), 0);
        check.equal("from the end", x.read(length), 0);
        check.equal("from the end: passed over", x.count(4), 0);
        check.equal("from 0 again", x.read(0), 3);
        check.index("behind the end", () -> x.read(length + 1));
        check.index("ahead of 0", () -> x.read(-1));
        check.index("least", () -> x.read(Integer.MIN_VALUE));
        check.index("most", () -> x.read(MOST));
        check.equal("wrong ones change nothing", x.count(7), 3);
    }

    private void between() {
        int[] good = Blocks.block(1, 5, 1, 3);
        TracePacks x = Blocks.packOf(1, 2, 3, 126, 126);
        Blocks.putAll(x, good);
        Blocks.putAll(x, 126, 9, 9);
        Blocks.putAll(x, good);
        x.put(126);
        check.equal("rows", x.read(0), 2);
        check.equal("passed over", x.count(4), 3);
        check.equal("good ones", x.count(5), 2);
        check.equal("broken ones: empty, empty, short, empty at the end", x.count(6), 4);
        check.equal("their numbers", x.kept(1, 5), 1);
        broken("a mark alone", 126);
        int[] cut = Arrays.copyOf(good, good.length - 1);
        broken("one byte is missing", cut);
        int[] more = Arrays.copyOf(good, good.length + 1);
        broken("one byte too many", more);
    }

    private void shields() {
        int[] shielded = Blocks.block(0, 0, 1, 104, 126, 125, 0, 1);
        right("shields", 1, shielded);
        TracePacks x = Blocks.packOf(shielded);
        x.read(0);
        check.equal("the value", x.kept(0, 2), 0x7e7d0001);
        for (int v = 0; v < 256; v++) {
            int[] bytes = shielded.clone();
            bytes[9] = v;
            if (v != 94 && v != 126) {
                broken("125 and " + v, bytes);
            }
        }
        wrongShieldsWithARightSum();
        int[] good = Blocks.block(0, 0, 1, 3);
        int[] open = Arrays.copyOf(good, good.length + 1);
        open[good.length] = 125;
        broken("a shield with nothing behind it", open);
        // 94 and 93 by themselves are bytes like others.
        rightRows("94 and 93", 1, 104, 94, 93, 94, 93);
    }

    /** The sum is right if the shield is passed over, or if the byte behind it is what 94 and 93 are to 126 and 125. */
    private void wrongShieldsWithARightSum() {
        for (int v = 0; v < 256; v++) {
            if (v >= 93 && v <= 94 || v >= 125 && v <= 126) {
                continue;
            }
            int[] passed = Blocks.block(0, 0, 1, 104, v, 0, 0, 0);
            broken("125 passed over ahead of " + v, withByte(passed, 8, 125));
            int other = v ^ 32;
            int[] changed = Blocks.block(0, 0, 1, 104, other, 0, 0, 0);
            changed[8] = v;
            broken("125 and " + v + " for " + other, withByte(changed, 8, 125));
        }
    }

    private static int[] withByte(int[] bytes, int at, int value) {
        int[] more = new int[bytes.length + 1];
        System.arraycopy(bytes, 0, more, 0, at);
        more[at] = value;
        System.arraycopy(bytes, at, more, at + 1, bytes.length - at);
        return more;
    }

    private void sums() {
        int[] good = Blocks.block(2, 9, 2, 7);
        right("a right sum", 2, good);
        for (int i = 1; i <= 2; i++) {
            for (int mask = 1; mask < 256; mask <<= 1) {
                int[] bytes = good.clone();
                bytes[good.length - i] ^= mask;
                broken("byte " + i + " from the end, bit " + mask, bytes);
            }
        }
        // 255 where 0 is due is another byte, though modulo 255 the same.
        int[] zero = Blocks.closed(Blocks.inside(0, 0, 1, 104, 150, 0, 0, 0));
        check.equal("p is 0", zero[zero.length - 2], 0);
        int[] other = zero.clone();
        other[zero.length - 2] = 255;
        right("p 0", 1, zero);
        broken("p 255", other);
        int[] swapped = good.clone();
        swapped[good.length - 1] = good[good.length - 2];
        swapped[good.length - 2] = good[good.length - 1];
        broken("q ahead of p", swapped);
    }

    private void heads() {
        for (int t = 0; t < 256; t++) {
            if (t < 4) {
                right("thread " + t, 1, Blocks.block(t, 0, 1, 3));
            } else {
                broken("thread " + t, Blocks.block(t, 0, 1, 3));
            }
        }
        right("the latest time", 1, Blocks.block(0, MOST, 1, 3));
        broken("a time beyond it", Blocks.block(0, Integer.MIN_VALUE, 1, 3));
        broken("the most that four bytes can say", Blocks.block(0, -1, 1, 3));
        broken("eight bytes, no row", Blocks.block(0, 0, 0));
        broken("eight bytes, one row told", Blocks.block(0, 0, 1));
        broken("seven bytes", Blocks.closed(0, 0, 0, 0, 0));
        broken("two bytes", Blocks.closed());
        broken("three bytes", Blocks.closed(0));
    }

    private void howMany() {
        int[] loads = new int[101];
        Arrays.fill(loads, 64);
        rightRows("one row", 1, Arrays.copyOf(loads, 1));
        rightRows("100 rows", 100, Arrays.copyOf(loads, 100));
        brokenRows("101 rows", 101, loads);
        brokenRows("255 rows told", 255, loads);
        brokenRows("no rows told", 0, Arrays.copyOf(loads, 1));
        brokenRows("fewer told", 2, Arrays.copyOf(loads, 3));
        brokenRows("more told", 3, Arrays.copyOf(loads, 2));
        brokenRows("100 told, 99 there", 100, Arrays.copyOf(loads, 99));
        brokenRows("100 told, 101 there", 100, loads);
    }

    private void branches() {
        for (int bits = 2; bits < 32; bits++) {
            int rows = 31 - Integer.numberOfLeadingZeros(bits);
            rightRows("five bits " + bits, rows, bits);
            brokenRows("five bits " + bits + ", one row less told", rows - 1, bits);
            brokenRows("five bits " + bits + ", one row more told", rows + 1, bits);
        }
        brokenRow("five bits 0", 0);
        brokenRow("five bits 1: no branch", 1);
        brokenRow("no branch, with a row behind it", 1, 3);
        int[] hundred = new int[25];
        Arrays.fill(hundred, 16);
        rightRows("100 branches", 100, hundred);
        int[] more = Arrays.copyOf(hundred, 26);
        more[25] = 2;
        brokenRows("101 branches, 100 told", 100, more);
        brokenRows("101 branches", 101, more);
        int[] over = new int[26];
        Arrays.fill(over, 16);
        over[0] = 8;
        brokenRows("the last four go beyond 100", 100, over);
        brokenRows("the last four go beyond what is told", 6, 16, 16);
    }

    private void numbers() {
        rightRows("one byte", 1, 32, 127);
        rightRows("five bytes", 1, 32, 255, 255, 255, 255, 15);
        rightRows("five bytes, least", 1, 32, 128, 128, 128, 128, 1);
        brokenRow("the fifth one is 16", 32, 255, 255, 255, 255, 16);
        brokenRow("the fifth one goes on", 32, 128, 128, 128, 128, 129);
        brokenRow("six bytes", 32, 128, 128, 128, 128, 128, 1);
        brokenRow("the last of two is 0", 32, 128, 0);
        brokenRow("the last of five is 0", 32, 129, 128, 128, 128, 0);
        rightRows("0 alone", 1, 32, 0);
        brokenRow("no number", 32);
        brokenRow("a number that does not end", 32, 128);
        brokenRow("no number of a load", 65);
        brokenRow("no number of a store", 112);
        brokenRow("no number of a time", 128);
        brokenRow("the last of a load's two is 0", 65, 255, 0);
        brokenRow("the last of a store's two is 0", 120, 255, 0, 1, 2, 3, 4);
        brokenRow("the last of a time's two is 0", 128, 255, 0);
    }

    private void fiveBits() {
        for (int bits = 1; bits < 32; bits++) {
            brokenRow("a jump with " + bits, 32 + bits, 2);
            brokenRow("a jump with " + bits + " alone", 32 + bits);
            brokenRow("a time with " + bits, 128 + bits, 2);
            if (bits > 1) {
                brokenRow("a load with " + bits, 64 + bits);
                brokenRow("a load with " + bits + " and a number", 64 + bits, 2);
            }
        }
        for (int kind = 5; kind < 8; kind++) {
            for (int bits = 0; bits < 32; bits++) {
                brokenRow("kind " + kind + ", five bits " + bits, 32 * kind + bits);
                brokenRow("kind " + kind + ", five bits " + bits + " and a number", 32 * kind + bits, 2);
            }
        }
    }

    private void times() {
        rightRows("up to the latest time", 1, 128, 250, 255, 255, 255, 7);
        brokenRow("beyond it", 128, 251, 255, 255, 255, 7);
        brokenRow("far beyond it", 128, 255, 255, 255, 255, 15);
        rightRows("to the latest time, and no further", 2, 128, 250, 255, 255, 255, 7, 128, 0);
        brokenRows("one step more", 2, 128, 250, 255, 255, 255, 7, 128, 1);
        right("the latest from the beginning", 1, Blocks.block(0, MOST, 1, 128, 0));
        broken("one step more from the beginning", Blocks.block(0, MOST, 1, 128, 1));
    }

    private void values() {
        brokenRow("no value is there yet", 96);
        rightRows("the one that is there", 2, 104, 0, 0, 0, 1, 96);
        brokenRows("the second one of one", 2, 104, 0, 0, 0, 1, 97);
        brokenRows("the second one of one that came twice", 3, 104, 0, 0, 0, 1, 104, 0, 0, 0, 1, 97);
        int[] bytes = new int[46];
        for (int i = 0; i < 9; i++) {
            bytes[5 * i] = 104;
            bytes[5 * i + 4] = i;
        }
        for (int number = 0; number < 16; number++) {
            bytes[45] = 96 + number;
            if (number < 8) {
                rightRows("value number " + number, 10, bytes);
                TracePacks x = Blocks.packOf(Blocks.block(0, 0, 10, bytes));
                x.read(0);
                check.equal("value number " + number, x.kept(9, 2), 8 - number);
            } else {
                brokenRows("value number " + number, 10, bytes);
            }
        }
        brokenRow("number 9 with a value", 105, 0, 0, 0, 1);
        brokenRow("number 15 with a place and a value", 127, 2, 0, 0, 0, 1);
        brokenRow("three bytes of a value", 104, 0, 0, 0);
        brokenRow("none of a value", 120, 2);
    }

    private void otherWays() {
        TracePacks x = Blocks.packOf(Blocks.block(0, 0, 3, 2, 3, 2));
        check.equal("branches in smaller parts", x.read(0), 3);
        check.equal("the second one", x.kept(1, 1), 1);
        TracePacks y = Blocks.packOf(Blocks.block(0, 0, 4, 65, 8, 65, 8, 64, 65, 0));
        check.equal("the same stride told again", y.read(0), 4);
        check.equal("the second place", y.kept(1, 1), 8);
        check.equal("the third place", y.kept(2, 1), 12);
        check.equal("the fourth place", y.kept(3, 1), 12);
        TracePacks z = Blocks.packOf(Blocks.block(0, 0, 5,
            104, 0, 0, 0, 1, 104, 0, 0, 0, 2, 104, 0, 0, 0, 1, 97, 112, 0));
        check.equal("a value told anew", z.read(0), 5);
        check.equal("was the latest then", z.kept(3, 2), 2);
        check.equal("the one before", z.kept(4, 2), 2);
    }

    private void longInsides() {
        int[] bytes = new int[1000];
        for (int i = 0; i < 1000; i += 10) {
            bytes[i] = 120;
            Arrays.fill(bytes, i + 1, i + 5, 255);
            bytes[i + 5] = 15;
            bytes[i + 9] = i / 10 + 130;
        }
        // The calls are more than 512 here, as in LimitsTest.
        rightRows("the longest inside", 100, bytes);
        brokenRows("one byte longer", 100, Arrays.copyOf(bytes, 1001));
        brokenRows("much longer", 100, Arrays.copyOf(bytes, 5000));
    }

    private void nothingIsKeptForAnotherBlock() {
        TracePacks x = new TracePacks();
        for (int i = 0; i < 2; i++) {
            Blocks.putAll(x, Blocks.block(0, 10, 5, 32, 20, 65, 6, 64, 120, 8, 0, 0, 0, 5, 128, 3));
        }
        Blocks.putAll(x, Blocks.block(0, 0, 1, 96));
        check.equal("rows", x.read(0), 10);
        for (int i = 0; i < 5; i++) {
            for (int what = 0; what < 5; what++) {
                check.equal("row " + i + ", " + what, x.kept(i + 5, what), x.kept(i, what));
            }
        }
        check.equal("a value of the block before is not there", x.count(6), 1);
        TracePacks y = new TracePacks();
        Blocks.putAll(y, Blocks.block(3, 10, 3, 32, 20, 128, 50, 32));
        Blocks.putAll(y, Blocks.block(3, 10, 1, 32, 20));
        check.equal("behind a broken one", y.read(0), 1);
        check.equal("its jump", y.kept(0, 1), 10);
        check.equal("its time", y.kept(0, 4), 10);
        check.equal("its number", y.kept(0, 5), 0);
    }

    private void whatWasReadBeforeIsGone() {
        TracePacks x = new TracePacks();
        Blocks.putAll(x, Blocks.block(2, 9, 2, 7));
        Blocks.putAll(x, Blocks.block(1, 8, 1, 32, 4));
        x.read(0);
        check.equal("merged first", x.merged(0), 2);
        check.equal("read again", x.read(1), 1);
        check.equal("kept now", x.kept(0, 1), 2);
        check.equal("merged now", x.merged(0), 0);
        check.index("no second one", () -> x.kept(1, 0));
        check.index("no second one merged", () -> x.merged(1));
        check.equal("the pack stays as it is", x.read(0), 3);
        check.equal("merged again", x.merged(0), 2);
    }
}
