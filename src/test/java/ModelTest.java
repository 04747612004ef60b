import java.util.Arrays;
import java.util.Random;

/** Runs of 512 calls by chance, from fixed seeds, on an object and on the model: all answers are the same. */
public final class ModelTest {
    private static final int RUNS = 4000;
    /** What an object answers after these is free, so that none is made. */
    private static final int CALLS = 512;
    private static final int FEWEST_BY_CHANCE = 100;
    private static final int MOST_BY_CHANCE = 460;
    private static final int[] EDGES = {0, 1, -1, 2, 63, 64, -64, -65, 125, 126, 127, 128, 255, 256, 16383, 16384,
        Integer.MAX_VALUE, Integer.MIN_VALUE, 0x7d7e7d7e, 1 << 30};

    private final Random random;
    private final int run;
    private final TracePacks x = new TracePacks();
    private final Model model = new Model();
    private int calls;
    private boolean wrong;
    /** The latest time that was tried, so that most times are not below it. */
    private int time;

    private ModelTest(int run) {
        this.run = run;
        random = new Random(run);
    }

    public static void main(String[] args) {
        int wrong = 0;
        long kept = 0;
        long broken = 0;
        for (int run = 0; run < RUNS && wrong < 10; run++) {
            ModelTest test = new ModelTest(run);
            test.go();
            wrong += test.wrong ? 1 : 0;
            kept += test.model.count(7);
            broken += test.model.count(6);
        }
        if (kept == 0 || broken == 0) {
            System.out.println("the runs read nothing, or nothing broken");
            System.exit(1);
        }
        if (wrong != 0) {
            System.exit(1);
        }
    }

    private void go() {
        int style = run % 4;
        int byChance = FEWEST_BY_CHANCE + random.nextInt(MOST_BY_CHANCE - FEWEST_BY_CHANCE);
        while (calls < byChance && !wrong) {
            int dice = random.nextInt(100);
            if (dice < 60) {
                if (style == 0) {
                    rowsOfOneKind();
                } else if (style == 1) {
                    putBlock();
                } else {
                    rowCall();
                }
            } else if (dice < 68) {
                same("thread", random.nextInt(20) == 0 ? edge() : random.nextInt(4));
            } else if (dice < 72) {
                same("mark");
            } else if (dice < 76 && style != 3) {
                same("flip", place(), random.nextInt(8) == 0 ? edge() : 1 << random.nextInt(8));
            } else if (dice < 78) {
                same("put", random.nextInt(3) == 0 ? edge() : random.nextBoolean() ? 126 : random.nextInt(256));
            } else if (dice < 79) {
                same("cut", random.nextInt(4) == 0 ? edge() : Math.max(0, model.count(0) - random.nextInt(30)));
            } else if (dice < 82) {
                same("choose", random.nextInt(8) == 0 ? edge() : 31 & ~(1 << random.nextInt(8)),
                    random.nextInt(8) == 0 ? edge() : 15 & ~(1 << random.nextInt(8)));
            } else if (dice < 88) {
                same("read", random.nextBoolean() ? 0 : place());
            } else if (dice < 93) {
                same("kept", keptPlace(), random.nextInt(10) == 0 ? edge() : random.nextInt(6));
            } else if (dice < 97) {
                same("merged", keptPlace());
            } else if (dice < 98) {
                same("byteAt", place());
            } else {
                same("count", random.nextInt(11) - 1);
            }
        }
        lookAtWhatStands();
    }

    /** With the calls that are left: first what says the most by one call, then bytes and rows from anywhere. */
    private void lookAtWhatStands() {
        same("choose", 31, 15);
        same("read", 0);
        for (int what = -1; what < 10; what++) {
            same("count", what);
        }
        while (calls < CALLS && !wrong) {
            same("byteAt", place());
            int k = keptPlace();
            same("kept", k, random.nextInt(6));
            same("merged", k);
        }
    }

    private int edge() {
        return EDGES[random.nextInt(EDGES.length)];
    }

    private int place() {
        int size = model.count(0);
        return size == 0 || random.nextInt(12) == 0 ? size + random.nextInt(3) - 1 : random.nextInt(size);
    }

    private int keptPlace() {
        int size = model.count(7);
        return size == 0 || random.nextInt(12) == 0 ? size + random.nextInt(3) - 1 : random.nextInt(size);
    }

    private void rowCall() {
        oneRow(random.nextInt(30) == 0 ? edge() : random.nextInt(5));
    }

    private void rowsOfOneKind() {
        int kind = random.nextInt(5);
        for (int i = random.nextInt(60); i >= 0; i--) {
            oneRow(kind);
        }
    }

    private void oneRow(int kind) {
        int a = random.nextInt(6) == 0 ? edge() : random.nextInt(5) * 4;
        int b = kind == 3 ? random.nextInt(8) == 0 ? edge() : random.nextInt(12) : random.nextInt(40) == 0 ? 1 : 0;
        if (kind == 0) {
            a = random.nextInt(60) == 0 ? edge() : random.nextInt(2);
        }
        if (kind == 4 && random.nextInt(200) > 0) {
            time += random.nextInt(8) == 0 ? random.nextInt(1 << 20) : random.nextInt(3);
            a = time - (random.nextInt(15) == 0 ? 1 : 0);
        }
        same("row", kind, a, b);
    }

    /** A block with right shields and sum, whose rows are right for the most part. */
    private void putBlock() {
        int[] bytes = new int[200];
        int length = 0;
        int rows = 0;
        for (int i = random.nextInt(12); i >= 0; i--) {
            int kind = random.nextInt(40) == 0 ? random.nextInt(8) : random.nextInt(5);
            int five = random.nextInt(30) == 0 ? random.nextInt(32) : usualBits(kind);
            bytes[length++] = kind * 32 + five;
            rows += kind == 0 && five > 0 ? 31 - Integer.numberOfLeadingZeros(five) : 1;
            if (kind == 1 || kind == 4 || kind == 2 && five == 1 || kind == 3 && five >= 16) {
                for (int j = random.nextInt(8) == 0 ? random.nextInt(5) : 0; j > 0; j--) {
                    bytes[length++] = 128 + random.nextInt(128);
                }
                bytes[length++] = random.nextInt(random.nextBoolean() ? 18 : 128);
            }
            for (int j = 0; j < 4 && kind == 3 && five % 16 == 8; j++) {
                bytes[length++] = j == 3 ? random.nextInt(4) : random.nextInt(12) == 0 ? random.nextInt(256) : 0;
            }
        }
        int told = random.nextInt(25) == 0 ? rows + random.nextInt(3) - 1 : rows;
        int blockTime = random.nextInt(20) == 0 ? edge() : random.nextInt(300);
        int itsThread = random.nextInt(40) == 0 ? random.nextInt(6) : random.nextInt(4);
        for (int b : Blocks.block(itsThread, blockTime, told & 255, Arrays.copyOf(bytes, length))) {
            same("put", b);
        }
    }

    private int usualBits(int kind) {
        if (kind == 0) {
            return 2 + random.nextInt(30);
        }
        if (kind == 3) {
            return random.nextInt(2) * 16 + (random.nextInt(3) > 0 ? 8 : random.nextInt(3));
        }
        return kind == 2 ? random.nextInt(2) : 0;
    }

    private void same(String name, int... v) {
        if (calls == CALLS) {
            return;
        }
        calls++;
        String got = answer(() -> ofObject(name, v));
        String want = answer(() -> ofModel(name, v));
        if (!got.equals(want)) {
            wrong = true;
            System.out.println("run " + run + ", call " + calls + ": " + name + Arrays.toString(v)
                + " answered " + got + ", due is " + want);
        }
    }

    private static String answer(Check.Call call) {
        try {
            return "" + call.run();
        } catch (RuntimeException e) {
            return e.getClass().getSimpleName();
        }
    }

    private int ofObject(String name, int[] v) {
        switch (name) {
            case "thread": return x.thread(v[0]);
            case "row": return x.row(v[0], v[1], v[2]);
            case "mark": return x.mark();
            case "byteAt": return x.byteAt(v[0]);
            case "flip": return x.flip(v[0], v[1]);
            case "put": return x.put(v[0]);
            case "cut": return x.cut(v[0]);
            case "choose": return x.choose(v[0], v[1]);
            case "read": return x.read(v[0]);
            case "kept": return x.kept(v[0], v[1]);
            case "merged": return x.merged(v[0]);
            default: return x.count(v[0]);
        }
    }

    private int ofModel(String name, int[] v) {
        switch (name) {
            case "thread": return model.thread(v[0]);
            case "row": return model.row(v[0], v[1], v[2]);
            case "mark": return model.mark();
            case "byteAt": return model.byteAt(v[0]);
            case "flip": return model.flip(v[0], v[1]);
            case "put": return model.put(v[0]);
            case "cut": return model.cut(v[0]);
            case "choose": return model.choose(v[0], v[1]);
            case "read": return model.read(v[0]);
            case "kept": return model.kept(v[0], v[1]);
            case "merged": return model.merged(v[0]);
            default: return model.count(v[0]);
        }
    }
}
