import java.util.ArrayList;
import java.util.Comparator;
import java.util.Iterator;
import java.util.List;

/** What the document says, done plainly with lists: each row's bytes are found from all rows before it. */
final class Model {
    private static final class Broken extends Exception {
        private static final long serialVersionUID = 1;
    }

    /** Kind, a, b, thread, time, block. */
    private List<int[]> kept = new ArrayList<>();
    private final List<Integer> pack = new ArrayList<>();
    private final List<int[]> open = new ArrayList<>();
    private final int[] times = new int[4];
    private int openThread;
    private int openTime;
    private int thread;
    private int kinds = 31;
    private int threads = 15;
    private int rows;
    private int closed;
    private int passed;
    private int blocks;
    private int broken;
    private int notKept;

    int thread(int t) {
        index(t >= 0 && t <= 3);
        int before = thread;
        thread = t;
        return before;
    }

    int row(int kind, int a, int b) {
        argument(kind >= 0 && kind <= 4);
        argument(kind != 0 || a == 0 || a == 1);
        argument(kind != 4 || a >= times[thread]);
        argument(kind == 3 || b == 0);
        if (!open.isEmpty() && (openThread != thread || open.size() == 100)) {
            close();
        }
        if (open.isEmpty()) {
            openThread = thread;
            openTime = times[thread];
        }
        open.add(new int[] {kind, a, b});
        if (kind == 4) {
            times[thread] = a;
        }
        rows++;
        return open.size();
    }

    int mark() {
        if (!open.isEmpty()) {
            close();
        }
        return pack.size();
    }

    private void close() {
        List<Integer> inside = new ArrayList<>();
        inside.add(openThread);
        fourBytes(inside, openTime);
        inside.add(open.size());
        int branches = 0;
        for (int i = 0; i < open.size(); i++) {
            if (open.get(i)[0] == 0) {
                branches++;
                boolean last = i + 1 == open.size() || open.get(i + 1)[0] != 0;
                if (branches == 4 || last) {
                    int bits = 1 << branches;
                    for (int j = 0; j < branches; j++) {
                        bits |= open.get(i - j)[1] << j;
                    }
                    inside.add(bits);
                    branches = 0;
                }
            } else {
                encode(inside, i);
            }
        }
        int[] bytes = Blocks.closed(inside.stream().mapToInt(Integer::intValue).toArray());
        if (pack.size() + bytes.length > 16384) {
            throw new IllegalStateException();
        }
        for (int b : bytes) {
            pack.add(b);
        }
        open.clear();
        closed++;
    }

    private void encode(List<Integer> bytes, int i) {
        int kind = open.get(i)[0];
        int a = open.get(i)[1];
        int[] before = lastTwo(open.subList(0, i), kind);
        int difference = a - before[0];
        if (kind == 1) {
            bytes.add(32);
            number(bytes, difference < 0 ? -2L * difference - 1 : 2L * difference);
        } else if (kind == 4) {
            bytes.add(128);
            number(bytes, before[2] == 0 ? a - openTime : difference);
        } else {
            boolean same = difference == before[0] - before[1];
            int value = kind == 3 ? lastEight(open.subList(0, i)).indexOf(open.get(i)[2]) : 0;
            int valueBits = value < 0 ? 8 : value;
            int strideBit = kind == 2 ? 1 : 16;
            bytes.add(kind * 32 + (same ? 0 : strideBit) + valueBits);
            if (!same) {
                number(bytes, difference < 0 ? -2L * difference - 1 : 2L * difference);
            }
            if (valueBits == 8) {
                fourBytes(bytes, open.get(i)[2]);
            }
        }
    }

    /** The a of the last row of the kind, that of the one before, and how many there are. */
    private static int[] lastTwo(List<int[]> rows, int kind) {
        int[] two = new int[3];
        for (int[] r : rows) {
            if (r[0] == kind) {
                two[1] = two[0];
                two[0] = r[1];
                two[2]++;
            }
        }
        return two;
    }

    private static List<Integer> lastEight(List<int[]> rows) {
        List<Integer> values = new ArrayList<>();
        for (int i = rows.size() - 1; i >= 0 && values.size() < 8; i--) {
            if (rows.get(i)[0] == 3 && !values.contains(rows.get(i)[2])) {
                values.add(rows.get(i)[2]);
            }
        }
        return values;
    }

    private static void number(List<Integer> bytes, long n) {
        if (n < 128) {
            bytes.add((int) n);
        } else {
            bytes.add((int) (n & 127 | 128));
            number(bytes, n >> 7);
        }
    }

    private static void fourBytes(List<Integer> bytes, int v) {
        bytes.add(v >>> 24);
        bytes.add(v >>> 16 & 255);
        bytes.add(v >>> 8 & 255);
        bytes.add(v & 255);
    }

    int byteAt(int i) {
        index(i >= 0 && i < pack.size());
        return pack.get(i);
    }

    int flip(int i, int mask) {
        index(i >= 0 && i < pack.size());
        argument(mask >= 0 && mask <= 255);
        pack.set(i, pack.get(i) ^ mask);
        return pack.get(i);
    }

    int put(int v) {
        argument(v >= 0 && v <= 255);
        if (pack.size() == 16384) {
            throw new IllegalStateException();
        }
        pack.add(v);
        return pack.size();
    }

    int cut(int n) {
        argument(n >= 0 && n <= pack.size());
        int gone = pack.size() - n;
        pack.subList(n, pack.size()).clear();
        return gone;
    }

    int choose(int someKinds, int someThreads) {
        argument(someKinds >= 0 && someKinds <= 31 && someThreads >= 0 && someThreads <= 15);
        int before = kinds + 32 * threads;
        kinds = someKinds;
        threads = someThreads;
        return before;
    }

    int read(int from) {
        index(from >= 0 && from <= pack.size());
        kept = new ArrayList<>();
        blocks = 0;
        broken = 0;
        notKept = 0;
        List<List<Integer>> parts = new ArrayList<>();
        parts.add(new ArrayList<>());
        for (int b : pack.subList(from, pack.size())) {
            if (b == 126) {
                parts.add(new ArrayList<>());
            } else {
                parts.get(parts.size() - 1).add(b);
            }
        }
        passed = parts.get(0).size();
        for (List<Integer> part : parts.subList(1, parts.size())) {
            try {
                keep(decode(unshield(part)));
            } catch (Broken e) {
                broken++;
            }
        }
        return kept.size();
    }

    private void keep(List<int[]> decoded) {
        for (int[] r : decoded) {
            if ((kinds >> r[0] & 1) == 1 && (threads >> r[3] & 1) == 1 && kept.size() < 2000) {
                kept.add(new int[] {r[0], r[1], r[2], r[3], r[4], blocks});
            } else {
                notKept++;
            }
        }
        blocks++;
    }

    private static List<Integer> unshield(List<Integer> part) throws Broken {
        List<Integer> inside = new ArrayList<>();
        for (int i = 0; i < part.size(); i++) {
            if (part.get(i) == 125) {
                i++;
                right(i < part.size() && (part.get(i) == 94 || part.get(i) == 93));
                inside.add(part.get(i) == 94 ? 126 : 125);
            } else {
                inside.add(part.get(i));
            }
        }
        return inside;
    }

    private static List<int[]> decode(List<Integer> inside) throws Broken {
        right(inside.size() >= 9);
        int end = inside.size() - 2;
        int p = 0;
        int q = 0;
        for (int b : inside.subList(0, end)) {
            p = (p + b) % 255;
            q = (q + p) % 255;
        }
        right(inside.get(end) == p && inside.get(end + 1) == q);
        Iterator<Integer> bytes = inside.subList(0, end).iterator();
        int itsThread = next(bytes);
        right(itsThread <= 3);
        int time = word(bytes);
        right(time >= 0);
        int told = next(bytes);
        right(told >= 1 && told <= 100);
        List<int[]> decoded = new ArrayList<>();
        while (bytes.hasNext()) {
            int before = decoded.size();
            decodeRow(bytes, decoded, time);
            for (int i = before; i < decoded.size(); i++) {
                int[] r = decoded.get(i);
                time = r[0] == 4 ? r[1] : time;
                decoded.set(i, new int[] {r[0], r[1], r[2], itsThread, time});
            }
        }
        right(decoded.size() == told);
        return decoded;
    }

    private static void decodeRow(Iterator<Integer> bytes, List<int[]> decoded, int time) throws Broken {
        int b = next(bytes);
        int kind = b / 32;
        int five = b % 32;
        right(kind <= 4);
        if (kind == 0) {
            right(five >= 2);
            String outcomes = Integer.toBinaryString(five).substring(1);
            for (char c : outcomes.toCharArray()) {
                decoded.add(new int[] {0, c - '0', 0});
            }
            return;
        }
        int[] before = lastTwo(decoded, kind);
        int stride = before[0] - before[1];
        int a;
        int value = 0;
        if (kind == 1) {
            right(five == 0);
            a = before[0] + difference(bytes);
        } else if (kind == 2) {
            right(five <= 1);
            a = before[0] + (five == 1 ? difference(bytes) : stride);
        } else if (kind == 3) {
            right(five % 16 <= 8);
            a = before[0] + (five >= 16 ? difference(bytes) : stride);
            List<Integer> values = lastEight(decoded);
            right(five % 16 == 8 || five % 16 < values.size());
            value = five % 16 == 8 ? word(bytes) : values.get(five % 16);
        } else {
            right(five == 0);
            long later = time + number(bytes);
            right(later <= Integer.MAX_VALUE);
            a = (int) later;
        }
        decoded.add(new int[] {kind, a, value});
    }

    private static int difference(Iterator<Integer> bytes) throws Broken {
        long n = number(bytes);
        return (int) (n % 2 == 0 ? n / 2 : -(n / 2) - 1);
    }

    private static long number(Iterator<Integer> bytes) throws Broken {
        long n = 0;
        long factor = 1;
        for (int i = 1; true; i++) {
            int b = next(bytes);
            right(i < 5 || b < 16);
            n += b % 128 * factor;
            factor *= 128;
            if (b < 128) {
                right(i == 1 || b != 0);
                return n;
            }
        }
    }

    private static int word(Iterator<Integer> bytes) throws Broken {
        return next(bytes) << 24 | next(bytes) << 16 | next(bytes) << 8 | next(bytes);
    }

    private static int next(Iterator<Integer> bytes) throws Broken {
        right(bytes.hasNext());
        return bytes.next();
    }

    int kept(int k, int what) {
        index(k >= 0 && k < kept.size() && what >= 0 && what <= 5);
        return kept.get(k)[what];
    }

    int merged(int k) {
        index(k >= 0 && k < kept.size());
        List<Integer> order = new ArrayList<>();
        for (int i = 0; i < kept.size(); i++) {
            order.add(i);
        }
        order.sort(Comparator.<Integer>comparingInt(i -> kept.get(i)[4]).thenComparingInt(i -> kept.get(i)[3]));
        return order.get(k);
    }

    int count(int what) {
        int[] all = {pack.size(), open.size(), rows, closed, passed, blocks, broken, kept.size(), notKept};
        return what >= 0 && what < all.length ? all[what] : -1;
    }

    private static void index(boolean right) {
        if (!right) {
            throw new IndexOutOfBoundsException();
        }
    }

    private static void argument(boolean right) {
        if (!right) {
            throw new IllegalArgumentException();
        }
    }

    private static void right(boolean holds) throws Broken {
        if (!holds) {
            throw new Broken();
        }
    }
}
