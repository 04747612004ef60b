import java.util.Arrays;

/**
 * Makes a pack of many blocks of 100 rows by few calls: 92 branches and 8 jumps each. The values of ten stores are
 * such a block's bytes if the byte ahead of the first one is a mark; the stores' own bytes (104) are then a byte of
 * the block's time and, behind each jump's byte, the number of it. Ten blocks are of 100 stores; the head of those
 * is a broken block of its own.
 */
final class ManyRows {
    static final int BRANCHES = 92;
    static final int JUMPS = 8;
    private static final int STORES = 10;
    private static final int BLOCK_BYTES = 5 * STORES;
    private static final int HEAD_BYTES = 7;
    private static final int STORE_BYTE = 104;
    private static final int JUMP_BYTE = 32;
    private static final int MARK = 126;

    private final TracePacks x = new TracePacks();
    private final int[] places;
    private final int[] times;

    /** Block i is of thread i modulo 4; its time is below that of the block before. */
    ManyRows(int blocks) {
        places = new int[blocks];
        times = new int[blocks];
        int start = 0;
        for (int i = 0; i < blocks; i++) {
            places[i] = start + HEAD_BYTES + BLOCK_BYTES * (i % STORES);
            writeStores(i, 2 * (blocks - i));
            if (i % STORES == STORES - 1 || i == blocks - 1) {
                x.mark();
                // Without the stores' own sum.
                start = places[i] + BLOCK_BYTES;
                x.cut(start);
            }
        }
        for (int place : places) {
            x.flip(place, STORE_BYTE ^ MARK);
        }
    }

    TracePacks pack() {
        return x;
    }

    int place(int block) {
        return places[block];
    }

    int time(int block) {
        return times[block];
    }

    /** The second of two times, if the sum of the first one has a byte that would be shielded: all stay ten by five. */
    private void writeStores(int block, int third) {
        int[] bytes = bytes(block % 4, third);
        if (isShielded(bytes)) {
            bytes = bytes(block % 4, third + 1);
        }
        times[block] = bytes[4] * 256 + STORE_BYTE;
        for (int i = 0; i < BLOCK_BYTES; i += 5) {
            x.row(3, 0, bytes[i + 1] << 24 | bytes[i + 2] << 16 | bytes[i + 3] << 8 | bytes[i + 4]);
        }
    }

    private static boolean isShielded(int[] bytes) {
        return Arrays.stream(bytes).anyMatch(b -> b == 125 || b == 126);
    }

    private static int[] bytes(int thread, int third) {
        int[] bytes = new int[BLOCK_BYTES];
        for (int i = 0; i < STORES; i++) {
            int[] value = {16 + i, 16, 16, JUMP_BYTE};
            bytes[5 * i] = STORE_BYTE;
            System.arraycopy(value, 0, bytes, 5 * i + 1, 4);
        }
        System.arraycopy(new int[] {thread, 0, 0, third}, 0, bytes, 1, 4);
        System.arraycopy(new int[] {100, 8, 8}, 0, bytes, 6, 3);
        System.arraycopy(new int[] {2, 2}, 0, bytes, 46, 2);
        int[] sum = Blocks.sum(Arrays.copyOfRange(bytes, 1, 48));
        System.arraycopy(sum, 0, bytes, 48, 2);
        return bytes;
    }
}
