/** Counts what is not as due; each test ends with end(). */
final class Check {
    interface Call {
        int run();
    }

    private int wrong;

    void equal(String what, long got, long want) {
        if (got != want) {
            wrong(what + " answered " + got + ", due is " + want);
        }
    }

    void isTrue(String what, boolean holds) {
        if (!holds) {
            wrong(what);
        }
    }

    void index(String what, Call call) {
        throwing(what, "IndexOutOfBoundsException", call);
    }

    void argument(String what, Call call) {
        throwing(what, "IllegalArgumentException", call);
    }

    void state(String what, Call call) {
        throwing(what, "IllegalStateException", call);
    }

    /** The class itself must be thrown, none below it: those below IndexOutOfBoundsException are the machine's. */
    private void throwing(String what, String name, Call call) {
        String got;
        try {
            got = "answered " + call.run();
        } catch (RuntimeException e) {
            got = e.getClass().getSimpleName();
        }
        if (!got.equals(name)) {
            wrong(what + ": " + got + ", due is " + name);
        }
    }

    void bytes(String what, TracePacks x, int from, int... want) {
        equal(what + ": bytes of the pack", x.count(0), from + want.length);
        for (int i = 0; i < want.length && from + i < x.count(0); i++) {
            equal(what + ": byte " + (from + i), x.byteAt(from + i), want[i]);
        }
    }

    private void wrong(String text) {
        wrong++;
        System.out.println(text);
    }

    void end() {
        if (wrong != 0) {
            System.out.println(wrong + " are not as due");
            System.exit(1);
        }
    }
}
