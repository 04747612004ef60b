import java.util.Arrays;

/** The terms: reading. What is passed over, what is a block, and what is broken. */
public final class TermReadingTest {
    private static final int MOST = Integer.MAX_VALUE;
    private static final int LEAST = Integer.MIN_VALUE;

    private final Check check = new Check();
    private final Reading reading = new Reading(check);

    public static void main(String[] args) {
        TermReadingTest test = new TermReadingTest();
        test.passedOver();
        test.betweenMarks();
        test.toTheEnd();
        test.shields();
        test.wrongShieldsWithARightSum();
        test.nineBytes();
        test.sums();
        test.threads();
        test.oneToHundredRows();
        test.justSoManyRows();
        test.numbers();
        test.branches();
        test.fiveBits();
        test.times();
        test.kinds();
        test.values();
        test.leftOut();
        test.branchesInSmallerParts();
        test.strideToldAgain();
        test.valueToldAnew();
        test.longInsides();
        test.nothingIsKeptForAnother();
        test.check.end();
    }

    private void passedFrom(TracePacks x, int from, int passed, int blocks, int broken) {
        x.read(from);
        check.equal("from " + from + ": passed over", x.count(4), passed);
        check.equal("from " + from + ": blocks", x.count(5), blocks);
        check.equal("from " + from + ": broken ones", x.count(6), broken);
    }

    private void passedOver() {
        check.about("READING from a byte on: all up to the next mark is passed over");
        TracePacks x = Blocks.packOf(1, 2, 3);
        passedFrom(x, 0, 3, 0, 0);
        passedFrom(x, 2, 1, 0, 0);
        passedFrom(x, 3, 0, 0, 0);
        int[] shielded = Blocks.block(0, 0, 1, 104, 126, 0, 0, 0);
        Blocks.putAll(x, shielded);
        Blocks.putAll(x, shielded);
        int length = shielded.length;
        passedFrom(x, 0, 3, 2, 0);
        passedFrom(x, 2, 1, 2, 0);
        passedFrom(x, 3, 0, 2, 0);
        passedFrom(x, 4, length - 1, 1, 0);
        // The 125 and the 94 of a shield are passed over like others.
        passedFrom(x, 3 + 8, length - 8, 1, 0);
        passedFrom(x, 3 + 9, length - 9, 1, 0);
        passedFrom(x, 3 + length - 1, 1, 1, 0);
        passedFrom(x, 3 + length, 0, 1, 0);
        passedFrom(x, 4 + length, length - 1, 0, 0);
        passedFrom(x, 3 + 2 * length, 0, 0, 0);
        x.put(126);
        passedFrom(x, 4 + length, length - 1, 0, 1);
        passedFrom(x, 3 + 2 * length, 0, 0, 1);
        passedFrom(x, 4 + 2 * length, 0, 0, 0);
    }

    private void betweenMarks() {
        check.about("the bytes between marks (or to the end) are a block's inside");
        int[] good = Blocks.block(1, 5, 1, 3);
        TracePacks x = Blocks.packOf(Blocks.joined(new int[] {1, 2, 3, 126, 126}, good, new int[] {126, 9, 9}, good,
            new int[] {126}));
        check.equal("rows", x.read(0), 2);
        check.counts("empty, empty, short, and empty at the end are broken", x, x.count(0), 0, 0, 0, 3, 2, 4, 2, 0);
        check.equal("the second one's number", x.kept(1, 5), 1);
        reading.broken("a mark alone", 126);
        int[] halves = good.clone();
        halves[5] = 126;
        TracePacks y = Blocks.packOf(halves);
        y.read(0);
        check.equal("a mark in its midst makes it two broken ones", y.count(6), 2);
    }

    private void toTheEnd() {
        int[] good = Blocks.block(1, 5, 1, 104, 1, 2, 3, 4);
        for (int length = 1; length < good.length; length++) {
            reading.broken("cut to " + length, Arrays.copyOf(good, length));
        }
        reading.right("not cut", 1, good);
        for (int more : new int[] {0, 3, 64, 94, 125, 255}) {
            reading.broken("and " + more, Blocks.joined(good, new int[] {more}));
        }
    }

    private void shields() {
        check.about("if all shields in them are right (125 with 94 or 93 behind it)");
        int[] shielded = Blocks.block(0, 0, 1, 104, 126, 125, 0, 1);
        reading.right("shields", 1, shielded);
        TracePacks x = Blocks.packOf(shielded);
        x.read(0);
        check.equal("the value", x.kept(0, 2), 0x7e7d0001);
        for (int v = 0; v < 256; v++) {
            int[] bytes = shielded.clone();
            bytes[9] = v;
            if (v != 94 && v != 126) {
                reading.broken("125 and " + v, bytes);
            }
        }
        int[] good = Blocks.block(0, 0, 1, 3);
        reading.broken("a shield with nothing behind it", Blocks.joined(good, new int[] {125}));
        TracePacks y = Blocks.packOf(Blocks.joined(good, new int[] {125}, good));
        check.equal("a shield with a mark behind it: the mark is a mark", y.read(0), 1);
        check.equal("a shield with a mark behind it: the block ahead is broken", y.count(6), 1);
        reading.rightRows("94 and 93 by themselves are bytes like others", 1, 104, 94, 93, 94, 93);
    }

    /** The sum is right if the shield is passed over, or if the byte behind it is what 94 and 93 are to 126 and 125. */
    private void wrongShieldsWithARightSum() {
        for (int v = 0; v < 256; v++) {
            if (v >= 93 && v <= 94 || v >= 125 && v <= 126) {
                continue;
            }
            int[] passed = Blocks.block(0, 0, 1, 104, v, 0, 0, 0);
            reading.broken("125 passed over ahead of " + v, withShieldAt8(passed));
            int other = v ^ 32;
            int[] changed = Blocks.block(0, 0, 1, 104, other, 0, 0, 0);
            changed[8] = v;
            reading.broken("125 and " + v + " for " + other, withShieldAt8(changed));
        }
    }

    private static int[] withShieldAt8(int[] bytes) {
        return Blocks.joined(Arrays.copyOf(bytes, 8), new int[] {125}, Arrays.copyOfRange(bytes, 8, bytes.length));
    }

    private void nineBytes() {
        check.about("there are at least nine bytes");
        for (int length = 0; length < 7; length++) {
            int[] inside = Arrays.copyOf(new int[] {0, 0, 0, 0, 0, 1}, length);
            reading.broken(length + 2 + " bytes with a right sum", Blocks.closed(inside));
        }
        reading.broken("one byte", 126, 0);
        // Rows that would be right stand where the sum is due, so that nothing else tells that the bytes are too few.
        reading.broken("seven bytes, one row, no sum", 126, 0, 0, 0, 0, 0, 1, 64);
        reading.broken("eight bytes, two rows, no sum", 126, 0, 0, 0, 0, 0, 2, 64, 64);
        reading.broken("nine bytes, three rows, no sum", 126, 0, 0, 0, 0, 0, 3, 64, 64, 64);
        reading.broken("eight bytes, no row told", Blocks.block(0, 0, 0));
        reading.right("nine bytes", 1, Blocks.closed(0, 0, 0, 0, 0, 1, 64));
        int[] shielded = Blocks.block(0, 0x7e7e7e7e, 1);
        check.isTrue("more than nine with the shields", shielded.length > 10);
        reading.broken("eight bytes without the shields", shielded);
    }

    private void sums() {
        check.about("the sum is right");
        int[] good = Blocks.block(2, 9, 2, 7);
        reading.right("a right sum", 2, good);
        for (int i = 1; i < good.length; i++) {
            for (int mask = 1; mask < 256; mask <<= 1) {
                int[] bytes = good.clone();
                bytes[i] ^= mask;
                // A mark would make two blocks of it.
                if (bytes[i] != 126) {
                    reading.broken("byte " + i + ", bit " + mask, bytes);
                }
            }
        }
        int[] swapped = good.clone();
        swapped[good.length - 1] = good[good.length - 2];
        swapped[good.length - 2] = good[good.length - 1];
        reading.broken("q ahead of p", swapped);
        sumOf255(150, 2);
        sumOf255(239, 1);
    }

    /** 255 where 0 is due is another byte, though modulo 255 the same. */
    private void sumOf255(int value, int fromTheEnd) {
        int[] zero = Blocks.block(0, 0, 1, 104, 0, 0, 0, value);
        int place = zero.length - fromTheEnd;
        check.equal("byte " + fromTheEnd + " from the end", zero[place], 0);
        reading.right("0 there", 1, zero);
        zero[place] = 255;
        reading.broken("255 there", zero);
    }

    private void threads() {
        check.about("the thread is 0 .. 3");
        for (int t = 0; t < 256; t++) {
            if (t < 4) {
                reading.right("thread " + t, 1, Blocks.block(t, 0, 1, 3));
            } else {
                reading.broken("thread " + t, Blocks.block(t, 0, 1, 3));
            }
        }
    }

    private static int[] loads(int howMany) {
        int[] bytes = new int[howMany];
        Arrays.fill(bytes, 64);
        return bytes;
    }

    private void oneToHundredRows() {
        check.about("the rows are 1 to 100");
        reading.brokenRows("no rows told, one there", 0, 64);
        reading.brokenRows("no rows told, none there", 0);
        reading.rightRows("one row", 1, 64);
        reading.rightRows("99 rows", 99, loads(99));
        reading.rightRows("100 rows", 100, loads(100));
        reading.brokenRows("101 rows", 101, loads(101));
        reading.brokenRows("128 rows", 128, loads(128));
        reading.brokenRows("255 rows", 255, loads(255));
        int[] branches = new int[26];
        Arrays.fill(branches, 16);
        reading.rightRows("100 branches", 100, Arrays.copyOf(branches, 25));
        reading.brokenRows("104 branches", 104, branches);
    }

    private void justSoManyRows() {
        check.about("and the bytes of the rows say just so many rows");
        reading.brokenRows("one told, none there", 1);
        reading.brokenRows("one told, two there", 1, 64, 64);
        reading.brokenRows("two told, one there", 2, 64);
        reading.brokenRows("100 told, 99 there", 100, loads(99));
        reading.brokenRows("99 told, 100 there", 99, loads(100));
        reading.brokenRows("100 told, 101 there", 100, loads(101));
        for (int bits = 2; bits < 32; bits++) {
            int rows = 31 - Integer.numberOfLeadingZeros(bits);
            reading.brokenRows("branches " + bits + ", one less told", rows - 1, bits);
            reading.brokenRows("branches " + bits + ", one more told", rows + 1, bits);
        }
        int[] branches = new int[26];
        Arrays.fill(branches, 16);
        branches[0] = 8;
        reading.brokenRows("the last four branches go beyond 100", 100, branches);
        branches[0] = 16;
        branches[25] = 2;
        reading.brokenRows("101 branches, 100 told", 100, branches);
        reading.brokenRows("the last four go beyond what is told", 6, 16, 16);
        reading.brokenRows("a row that ends behind the rows' end", 2, 64, 104, 0, 0, 0);
    }

    /** All of these end with no more than the number, so that nothing else is wrong. */
    private void numbersOf(String what, int first, int fifth) {
        int[][] right = {{0}, {1}, {127}, {128, 1}, {255, 127}, {128, 128, 1}, {255, 255, 127}, {128, 128, 128, 1},
            {255, 255, 255, 127}, {128, 128, 128, 128, 1}, {128, 128, 128, 128, fifth}};
        for (int[] number : right) {
            reading.rightRows(what + " " + Arrays.toString(number), 1, Blocks.joined(new int[] {first}, number));
        }
        int[][] wrong = {{}, {128}, {255, 255}, {128, 128, 128}, {128, 128, 128, 128}, {128, 0}, {255, 0},
            {255, 255, 0}, {129, 128, 128, 0}, {129, 128, 128, 128, 0}, {128, 128, 128, 128, 16},
            {128, 128, 128, 128, 127}, {128, 128, 128, 128, 128}, {128, 128, 128, 128, 129},
            {128, 128, 128, 128, 128, 1}, {129, 128, 128, 128, 128, 0}, {1, 1}};
        for (int[] number : wrong) {
            reading.brokenRow(what + " " + Arrays.toString(number), Blocks.joined(new int[] {first}, number));
        }
    }

    private void numbers() {
        check.about("a number has at most five bytes, the fifth one below 16, and the last one is not 0 if there are "
            + "more");
        numbersOf("a jump's", 32, 15);
        numbersOf("a load's", 65, 15);
        numbersOf("a time's", 128, 7);
        int[] value = {0, 0, 0, 5};
        reading.rightRows("a store's", 1, Blocks.joined(new int[] {120, 255, 255, 255, 255, 15}, value));
        reading.rightRows("a store's 0", 1, Blocks.joined(new int[] {120, 0}, value));
        reading.brokenRow("a store's fifth one is 16", Blocks.joined(new int[] {120, 255, 255, 255, 255, 16}, value));
        reading.brokenRow("a store's last of two is 0", Blocks.joined(new int[] {120, 255, 0}, value));
        reading.brokenRow("a store's last of five is 0",
            Blocks.joined(new int[] {120, 129, 128, 128, 128, 0}, value));
        reading.brokenRow("a store's number goes on", 120, 128, 128, 128);
        reading.brokenRow("a store's number is not there", 120);
    }

    private void branches() {
        check.about("branches 1 to 4");
        for (int bits = 2; bits < 32; bits++) {
            reading.rightRows("five bits " + bits, 31 - Integer.numberOfLeadingZeros(bits), bits);
        }
        reading.brokenRow("five bits 0", 0);
        reading.brokenRow("five bits 1: none", 1);
        reading.brokenRow("none, with one behind it", 1, 3);
        reading.brokenRow("none, behind one", 3, 1);
    }

    private void fiveBits() {
        check.about("no other five bits than those told");
        for (int bits = 1; bits < 32; bits++) {
            reading.brokenRow("a jump with " + bits, 32 + bits, 2);
            reading.brokenRow("a jump with " + bits + " alone", 32 + bits);
            reading.brokenRow("a time with " + bits, 128 + bits, 2);
            reading.brokenRow("a time with " + bits + " alone", 128 + bits);
            if (bits > 1) {
                reading.brokenRow("a load with " + bits, 64 + bits);
                reading.brokenRow("a load with " + bits + " and a number", 64 + bits, 2);
            }
        }
        int[] eight = Blocks.storesOfNewValues(8);
        for (int bits = 9; bits < 16; bits++) {
            for (int[] value : new int[][] {{}, {0, 0, 0, 1}}) {
                int[] row = Blocks.joined(new int[] {96 + bits}, value);
                reading.brokenRow("a store with " + bits, row);
                reading.brokenRows("a store with " + bits + " behind eight", 9, Blocks.joined(eight, row));
                int[] placed = Blocks.joined(new int[] {112 + bits, 2}, value);
                reading.brokenRow("a store with 16 + " + bits, placed);
                reading.brokenRows("a store with 16 + " + bits + " behind eight", 9, Blocks.joined(eight, placed));
            }
        }
    }

    private void times() {
        check.about("times, the block's own, too, do not go beyond 2147483647");
        reading.right("the block's own is the latest", 1, Blocks.block(0, MOST, 1, 3));
        reading.broken("the block's own is one more", Blocks.block(0, LEAST, 1, 3));
        reading.broken("the block's own is the most of four bytes", Blocks.block(0, -1, 1, 3));
        reading.right("no step from the latest", 1, Blocks.block(0, MOST, 1, 128, 0));
        reading.broken("one step from the latest", Blocks.block(0, MOST, 1, 128, 1));
        reading.right("one step to the latest", 1, Blocks.block(0, MOST - 1, 1, 128, 1));
        reading.broken("two steps from one before", Blocks.block(0, MOST - 1, 1, 128, 2));
        // The block's own time is 5 in these.
        reading.rightRows("up to the latest", 1, 128, 250, 255, 255, 255, 7);
        reading.brokenRow("one beyond it", 128, 251, 255, 255, 255, 7);
        reading.brokenRow("as many steps as 32 bits say", 128, 255, 255, 255, 255, 15);
        reading.brokenRow("so many steps that 32 bits come round", 128, 251, 255, 255, 255, 15);
        reading.rightRows("to the latest, and no further", 2, 128, 250, 255, 255, 255, 7, 128, 0);
        reading.brokenRows("to the latest, and one further", 2, 128, 250, 255, 255, 255, 7, 128, 1);
    }

    private void kinds() {
        check.about("no kind above 4");
        for (int kind = 5; kind < 8; kind++) {
            for (int bits = 0; bits < 32; bits++) {
                reading.brokenRow("kind " + kind + ", " + bits, 32 * kind + bits);
                reading.brokenRow("kind " + kind + ", " + bits + " and a number", 32 * kind + bits, 2);
            }
        }
    }

    private void values() {
        check.about("a value by its number is there");
        for (int stores = 0; stores <= 9; stores++) {
            for (int number = 0; number < 8; number++) {
                String what = "number " + number + " behind " + stores;
                int[] bytes = Blocks.joined(Blocks.storesOfNewValues(stores), new int[] {96 + number});
                if (number >= stores) {
                    reading.brokenRows(what, stores + 1, bytes);
                    continue;
                }
                reading.rightRows(what, stores + 1, bytes);
                TracePacks x = Blocks.packOf(Blocks.block(0, 0, stores + 1, bytes));
                x.read(0);
                check.equal(what, x.kept(stores, 2), stores - 1 - number);
            }
        }
        reading.brokenRows("at another place: none is there", 1, 112, 2);
        reading.rightRows("at another place: one is there", 2, 104, 0, 0, 0, 1, 112, 2);
        reading.brokenRows("the second one of one that came twice", 3, 104, 0, 0, 0, 1, 104, 0, 0, 0, 1, 97);
        for (int there = 0; there < 4; there++) {
            reading.brokenRow(there + " bytes of a value", Arrays.copyOf(new int[] {104}, 1 + there));
            reading.brokenRow(there + " bytes of a placed value", Arrays.copyOf(new int[] {120, 2}, 2 + there));
        }
    }

    private void leftOut() {
        check.about("Else it is BROKEN, and left out.");
        int[] broken = Blocks.block(3, 10, 3, 32, 20, 128, 50, 32);
        TracePacks x = Blocks.packOf(Blocks.joined(Blocks.block(2, 1, 1, 3), broken, Blocks.block(1, 7, 2, 7), broken));
        check.equal("rows", x.read(0), 3);
        check.counts("two of each", x, x.count(0), 0, 0, 0, 0, 2, 2, 3, 0);
        check.equal("the number behind a broken one", x.kept(1, 5), 1);
        check.equal("the thread behind it", x.kept(1, 3), 1);
        check.equal("the time behind it", x.kept(2, 4), 7);
    }

    private void branchesInSmallerParts() {
        check.about("branches in smaller parts");
        TracePacks x = Blocks.packOf(Blocks.block(0, 0, 3, 2, 3, 2));
        check.equal("one by one", x.read(0), 3);
        check.equal("the first one", x.kept(0, 1), 0);
        check.equal("the second one", x.kept(1, 1), 1);
        TracePacks y = Blocks.packOf(Blocks.block(0, 0, 7, 9, 24, 0));
        check.equal("a part of none is broken", y.read(0), 0);
        TracePacks z = Blocks.packOf(Blocks.block(0, 0, 9, 5, 24, 15));
        check.equal("two, four, three", z.read(0), 9);
        check.equal("the first one of the four", z.kept(2, 1), 1);
        check.equal("the second one of the four", z.kept(3, 1), 0);
        int[] single = new int[100];
        Arrays.fill(single, 3);
        reading.rightRows("100 by themselves", 100, single);
    }

    private void strideToldAgain() {
        check.about("the same stride told again");
        TracePacks x = Blocks.packOf(Blocks.block(0, 0, 5, 65, 0, 65, 8, 65, 8, 64, 65, 0));
        check.equal("of loads", x.read(0), 5);
        int[] loads = {0, 4, 8, 12, 12};
        for (int k = 0; k < loads.length; k++) {
            check.equal("load " + k, x.kept(k, 1), loads[k]);
        }
        TracePacks y = Blocks.packOf(Blocks.block(0, 0, 4, 120, 0, 0, 0, 0, 9, 112, 8, 112, 8, 96));
        check.equal("of stores", y.read(0), 4);
        int[] stores = {0, 4, 8, 12};
        for (int k = 0; k < stores.length; k++) {
            check.equal("store " + k, y.kept(k, 1), stores[k]);
        }
    }

    private void valueToldAnew() {
        check.about("a value told anew that is there");
        TracePacks x = Blocks.packOf(Blocks.block(0, 0, 5,
            104, 0, 0, 0, 1, 104, 0, 0, 0, 2, 104, 0, 0, 0, 1, 97, 112, 0));
        check.equal("it is right", x.read(0), 5);
        check.equal("it was the latest then", x.kept(3, 2), 2);
        check.equal("it did not become two", x.kept(4, 2), 2);
        TracePacks y = Blocks.packOf(Blocks.block(0, 0, 11, Blocks.joined(Blocks.storesOfNewValues(8),
            new int[] {104, 0, 0, 0, 3, 96 + 7, 96 + 1})));
        check.equal("of eight that are there", y.read(0), 11);
        check.equal("none is driven out by it", y.kept(9, 2), 0);
        check.equal("it stands behind that one then", y.kept(10, 2), 3);
    }

    /** As long as 100 rows can be: stores by a difference of five bytes, each with a new value. */
    private void longInsides() {
        check.about("the bytes of the rows say just so many rows");
        TracePacks x = new TracePacks();
        for (int i = 0; i < 100; i++) {
            x.row(3, i % 2 == 0 ? MOST : 1, 0x10203080 + i);
        }
        int length = x.mark();
        check.equal("the longest inside", length, 1 + 6 + 1000 + 2);
        check.equal("is read", x.read(0), 100);
        check.equal("its last value", x.kept(99, 2), 0x10203080 + 99);
        x.put(0);
        check.equal("one byte longer", x.read(0), 0);
        check.equal("one byte longer: broken", x.count(6), 1);
        x.cut(length);
        Blocks.writeMany(x, 100, 2, 0);
        x.mark();
        x.flip(length, 1);
        check.equal("two that have become one", x.read(0), 0);
        check.equal("two that have become one: broken", x.count(6), 1);
    }

    private void nothingIsKeptForAnother() {
        check.about("Nothing from one block is kept for another.");
        TracePacks x = new TracePacks();
        for (int i = 0; i < 2; i++) {
            Blocks.putAll(x, Blocks.block(0, 10, 6, 32, 20, 65, 6, 64, 120, 8, 0, 0, 0, 5, 112, 0, 128, 3));
        }
        Blocks.putAll(x, Blocks.block(0, 0, 1, 96));
        check.equal("rows", x.read(0), 12);
        for (int i = 0; i < 6; i++) {
            for (int what = 0; what < 5; what++) {
                check.equal("row " + i + ", " + what, x.kept(i + 6, what), x.kept(i, what));
            }
        }
        check.equal("a value of the block before is not there", x.count(6), 1);
        TracePacks y = Blocks.packOf(Blocks.joined(
            Blocks.block(3, 10, 5, 32, 20, 65, 6, 104, 0, 0, 0, 7, 128, 50, 32), Blocks.block(3, 10, 2, 32, 20, 64)));
        check.equal("nor from a broken one", y.read(0), 2);
        check.equal("its jump", y.kept(0, 1), 10);
        check.equal("its load", y.kept(1, 1), 0);
        check.equal("its time", y.kept(0, 4), 10);
        TracePacks z = Blocks.packOf(Blocks.joined(Blocks.block(0, 0, 1, 104, 0, 0, 0, 7), Blocks.block(0, 0, 1, 96)));
        check.equal("a value for another block of the thread", z.read(0), 1);
        check.equal("is not there", z.count(6), 1);
        rowsBeforeAreNotCounted();
    }

    /** They would have the rows they tell with those of the block before, or with the byte that tells how many. */
    private void rowsBeforeAreNotCounted() {
        int[] oneRow = Blocks.block(0, 0, 1, 3);
        int[][] wrong = {Blocks.block(0, 0, 2, 3), Blocks.block(0, 0, 3, 3), Blocks.block(4, 0, 2, 3),
            Blocks.block(4, 0, 3, 3), Blocks.block(0, 1 << 31, 3, 3)};
        for (int i = 0; i < wrong.length; i++) {
            TracePacks x = Blocks.packOf(Blocks.joined(oneRow, wrong[i]));
            check.equal("wrong block " + i + " behind a right one: rows", x.read(0), 1);
            check.equal("wrong block " + i + " behind a right one: broken ones", x.count(6), 1);
        }
    }
}
