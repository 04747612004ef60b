import java.util.ArrayList;
import java.util.List;

/** Makes packs: of rows, or of blocks made by hand, right in their shields and sum whatever the inside says. */
final class Blocks {
    private Blocks() {
    }

    /** The inside without the sum: thread, time, how many rows, the rows. */
    static int[] inside(int thread, int time, int rows, int... rowBytes) {
        int[] inside = new int[6 + rowBytes.length];
        inside[0] = thread;
        for (int i = 0; i < 4; i++) {
            inside[1 + i] = time >>> 24 - 8 * i & 255;
        }
        inside[5] = rows;
        System.arraycopy(rowBytes, 0, inside, 6, rowBytes.length);
        return inside;
    }

    /** The mark and the shielded inside with its sum. */
    static int[] closed(int... inside) {
        int[] sum = sum(inside);
        List<Integer> bytes = new ArrayList<>();
        bytes.add(126);
        for (int b : inside) {
            addShielded(bytes, b);
        }
        addShielded(bytes, sum[0]);
        addShielded(bytes, sum[1]);
        return bytes.stream().mapToInt(Integer::intValue).toArray();
    }

    static int[] sum(int... inside) {
        int p = 0;
        int q = 0;
        for (int b : inside) {
            p = (p + b) % 255;
            q = (q + p) % 255;
        }
        return new int[] {p, q};
    }

    private static void addShielded(List<Integer> bytes, int b) {
        if (b == 126 || b == 125) {
            bytes.add(125);
            bytes.add(b == 126 ? 94 : 93);
        } else {
            bytes.add(b);
        }
    }

    static int[] block(int thread, int time, int rows, int... rowBytes) {
        return closed(inside(thread, time, rows, rowBytes));
    }

    static int[] joined(int[]... parts) {
        List<Integer> bytes = new ArrayList<>();
        for (int[] part : parts) {
            for (int b : part) {
                bytes.add(b);
            }
        }
        return bytes.stream().mapToInt(Integer::intValue).toArray();
    }

    /** STOREs of the values 0, 1 and so on, each told anew, all at place 0. */
    static int[] storesOfNewValues(int stores) {
        int[] bytes = new int[5 * stores];
        for (int i = 0; i < stores; i++) {
            bytes[5 * i] = 104;
            bytes[5 * i + 4] = i;
        }
        return bytes;
    }

    static void putAll(TracePacks x, int... bytes) {
        for (int b : bytes) {
            x.put(b);
        }
    }

    /** A new object whose pack is these bytes. */
    static TracePacks packOf(int... bytes) {
        TracePacks x = new TracePacks();
        putAll(x, bytes);
        return x;
    }

    /** Rows of the thread that is the present one: kind, a, and a STORE's b. */
    static void write(TracePacks x, int[]... rows) {
        for (int[] r : rows) {
            x.row(r[0], r[1], r.length > 2 ? r[2] : 0);
        }
    }

    static void writeMany(TracePacks x, int howMany, int kind, int a) {
        for (int i = 0; i < howMany; i++) {
            x.row(kind, a, 0);
        }
    }

    /** A new object whose pack is one block of these rows. */
    static TracePacks written(int[]... rows) {
        TracePacks x = new TracePacks();
        write(x, rows);
        x.mark();
        return x;
    }
}
