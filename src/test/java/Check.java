/** Counts what is not as due; each test ends with end(). */
final class Check {
    interface Call {
        int run();
    }

    private String sentence = "";
    private int wrong;

    /** The words of the document that are looked at from here on; they stand ahead of what is not as due. */
    void about(String words) {
        sentence = "\"" + words + "\": ";
    }

    void equal(String what, long got, long want) {
        if (got != want) {
            wrong(what + " answered " + got + ", due is " + want);
        }
    }

    void isTrue(String what, boolean holds) {
        if (!holds) {
            wrong(what);
        }
    }

    void index(String what, Call call) {
        throwing(what, "IndexOutOfBoundsException", call);
    }

    void argument(String what, Call call) {
        throwing(what, "IllegalArgumentException", call);
    }

    void state(String what, Call call) {
        throwing(what, "IllegalStateException", call);
    }

    /** The class itself must be thrown, none below it: those below IndexOutOfBoundsException are the machine's. */
    private void throwing(String what, String name, Call call) {
        String got;
        try {
            got = "answered " + call.run();
        } catch (RuntimeException e) {
            got = e.getClass().getSimpleName();
        }
        if (!got.equals(name)) {
            wrong(what + ": " + got + ", due is " + name);
        }
    }

    /** The pack's bytes from one on, up to its end. */
    void bytes(String what, TracePacks x, int from, int... want) {
        int size = x.count(0);
        equal(what + ": bytes of the pack", size, from + want.length);
        for (int i = 0; i < want.length && from + i < size; i++) {
            equal(what + ": byte " + (from + i), x.byteAt(from + i), want[i]);
        }
    }

    /** Rows (kind, a, and a STORE's b) as one block of a new object: these are its rows' bytes, and are read again. */
    void written(String what, int[][] rows, int... rowBytes) {
        bytes(what, Blocks.written(rows), 0, Blocks.block(0, 0, rows.length, rowBytes));
        TracePacks x = Blocks.written(rows);
        int read = x.read(0);
        equal(what + ": rows that are read", read, rows.length);
        for (int k = 0; k < rows.length && k < read; k++) {
            equal(what + ": kind of row " + k, x.kept(k, 0), rows[k][0]);
            equal(what + ": a of row " + k, x.kept(k, 1), rows[k][1]);
            equal(what + ": b of row " + k, x.kept(k, 2), rows[k].length > 2 ? rows[k][2] : 0);
        }
    }

    /** count(0), count(1) and so on. */
    void counts(String what, TracePacks x, int... want) {
        for (int i = 0; i < want.length; i++) {
            equal(what + ": count(" + i + ")", x.count(i), want[i]);
        }
    }

    void merged(String what, TracePacks x, int... want) {
        for (int k = 0; k < want.length; k++) {
            equal(what + ": merged(" + k + ")", x.merged(k), want[k]);
        }
        index(what + ": merged(" + want.length + ")", () -> x.merged(want.length));
    }

    private void wrong(String text) {
        wrong++;
        System.out.println(sentence + text);
    }

    void end() {
        if (wrong != 0) {
            System.out.println(wrong + " are not as due");
            System.exit(1);
        }
    }
}
