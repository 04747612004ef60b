import java.util.ArrayList;
import java.util.List;

/** Makes blocks by hand: right in their shields and sum, whatever the inside says. */
final class Blocks {
    private Blocks() {
    }

    /** The inside without the sum: thread, time, how many rows, the rows. */
    static int[] inside(int thread, int time, int rows, int... rowBytes) {
        int[] inside = new int[6 + rowBytes.length];
        inside[0] = thread;
        for (int i = 0; i < 4; i++) {
            inside[1 + i] = time >>> 24 - 8 * i & 255;
        }
        inside[5] = rows;
        System.arraycopy(rowBytes, 0, inside, 6, rowBytes.length);
        return inside;
    }

    /** The mark and the shielded inside with its sum. */
    static int[] closed(int... inside) {
        int p = 0;
        int q = 0;
        for (int b : inside) {
            p = (p + b) % 255;
            q = (q + p) % 255;
        }
        List<Integer> bytes = new ArrayList<>();
        bytes.add(126);
        for (int b : inside) {
            addShielded(bytes, b);
        }
        addShielded(bytes, p);
        addShielded(bytes, q);
        return bytes.stream().mapToInt(Integer::intValue).toArray();
    }

    private static void addShielded(List<Integer> bytes, int b) {
        if (b == 126 || b == 125) {
            bytes.add(125);
            bytes.add(b == 126 ? 94 : 93);
        } else {
            bytes.add(b);
        }
    }

    static int[] block(int thread, int time, int rows, int... rowBytes) {
        return closed(inside(thread, time, rows, rowBytes));
    }

    static void putAll(TracePacks x, int... bytes) {
        for (int b : bytes) {
            x.put(b);
        }
    }

    /** A new object whose pack is these bytes. */
    static TracePacks packOf(int... bytes) {
        TracePacks x = new TracePacks();
        putAll(x, bytes);
        return x;
    }
}
