/** The terms: numbers and differences, as they are written and read again. */
public final class TermNumberTest {
    private static final int MOST = Integer.MAX_VALUE;
    private static final int LEAST = Integer.MIN_VALUE;

    private final Check check = new Check();

    public static void main(String[] args) {
        TermNumberTest test = new TermNumberTest();
        test.numbers();
        test.differences();
        test.roundTheEdge();
        test.check.end();
    }

    private void number(int n, int... bytes) {
        check.written("number " + n, new int[][] {{4, n}}, Blocks.joined(new int[] {128}, bytes));
    }

    private void numbers() {
        check.about("A NUMBER is written in sevens of bits, the lowest first, each byte but the last one with its "
            + "highest bit; as few bytes as can be.");
        number(0, 0);
        number(1, 1);
        number(127, 127);
        number(128, 128, 1);
        number(300, 172, 2);
        number(16383, 255, 127);
        number(16384, 128, 128, 1);
        number(2097151, 255, 255, 127);
        number(2097152, 128, 128, 128, 1);
        number(268435455, 255, 255, 255, 127);
        number(268435456, 128, 128, 128, 128, 1);
        number(0x12345678, 248, 172, 209, 145, 1);
        number(MOST, 255, 255, 255, 255, 7);
    }

    /** One difference from 0 (not 0 itself), of each of the kinds that are written by it. */
    private void difference(int d, int... bytes) {
        check.written("a jump by " + d, new int[][] {{1, d}}, Blocks.joined(new int[] {32}, bytes));
        check.written("a load by " + d, new int[][] {{2, d}}, Blocks.joined(new int[] {65}, bytes));
        check.written("a store by " + d, new int[][] {{3, d, 5}},
            Blocks.joined(new int[] {120}, bytes, new int[] {0, 0, 0, 5}));
    }

    private void differences() {
        check.about("A DIFFERENCE d (32 bits) is written as the number d * 2, or -d * 2 - 1 below 0 (without sign).");
        check.written("a jump by 0", new int[][] {{1, 0}}, 32, 0);
        difference(1, 2);
        difference(-1, 1);
        difference(63, 126);
        difference(-64, 127);
        difference(64, 128, 1);
        difference(-65, 129, 1);
        difference(8191, 254, 127);
        difference(-8192, 255, 127);
        difference(8192, 128, 128, 1);
        difference(1048575, 254, 255, 127);
        difference(-1048576, 255, 255, 127);
        difference(1048576, 128, 128, 128, 1);
        difference(134217727, 254, 255, 255, 127);
        difference(-134217728, 255, 255, 255, 127);
        difference(134217728, 128, 128, 128, 128, 1);
        difference(MOST, 254, 255, 255, 255, 15);
        difference(LEAST + 1, 253, 255, 255, 255, 15);
        difference(LEAST, 255, 255, 255, 255, 15);
    }

    /** From one to the other the difference goes beyond 32 bits. */
    private void around(int place, int[] placeBytes, int to, int... bytes) {
        check.written("a jump from " + place + " to " + to, new int[][] {{1, place}, {1, to}},
            Blocks.joined(new int[] {32}, placeBytes, new int[] {32}, bytes));
        check.written("a load from " + place + " to " + to, new int[][] {{2, place}, {2, to}},
            Blocks.joined(new int[] {65}, placeBytes, new int[] {65}, bytes));
        check.written("a store from " + place + " to " + to, new int[][] {{3, place, 5}, {3, to, 5}},
            Blocks.joined(new int[] {120}, placeBytes, new int[] {0, 0, 0, 5, 112}, bytes));
    }

    private void roundTheEdge() {
        check.about("A DIFFERENCE d (32 bits)");
        int[] most = {254, 255, 255, 255, 15};
        int[] least = {255, 255, 255, 255, 15};
        around(MOST, most, LEAST, 2);
        around(LEAST, least, MOST, 1);
        around(1, new int[] {2}, LEAST, most);
        around(-1, new int[] {1}, MOST, least);
        around(MOST, most, -3, 252, 255, 255, 255, 15);
        around(LEAST, least, 1, 253, 255, 255, 255, 15);
    }
}
