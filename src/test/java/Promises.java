/** What the tests of single promises share; their dues are reckoned by hand from the document. */
abstract class Promises {
    static final int NONE = -1, BAD = -2, NO = -3, FULL = -4;

    final Check check = new Check();
    SlipHunt x;
    private int promise;

    /** A new object, to test this promise with. */
    void begin(int number) {
        goOn(number);
        x = new SlipHunt();
    }

    /** The same object, for another promise. */
    void goOn(int number) {
        promise = number;
    }

    void due(long due, long got) {
        check.same("promise " + promise + " (line " + line() + ")", due, got);
    }

    /** The line of the test that asked. */
    private int line() {
        for (StackTraceElement e : Thread.currentThread().getStackTrace()) {
            if (e.getClassName().endsWith("PromisesTest")) {
                return e.getLineNumber();
            }
        }
        return 0;
    }

    /** What a call answers with 1 when THE FRACTION tells the rest. */
    void fraction(long above, long below, int answer) {
        due(1, answer);
        fraction(above, below);
    }

    /** THE FRACTION, of numbers that a long holds. */
    void fraction(long above, long below) {
        due(above == 0 ? 0 : 1, x.sign(0));
        part(0, above);
        part(1, below);
    }

    private void part(int which, long v) {
        int size = 0;
        for (long rest = v; rest > 0; rest >>= 30) {
            due(rest & (1 << 30) - 1, x.limb(which, size));
            size++;
        }
        due(NONE, x.limb(which, size));
        due(size, x.sign(1 + which));
    }

    void make(int places) {
        for (int i = 0; i < places; i++) {
            x.place();
        }
    }

    /** PLACES in a line, each a minute from the next. */
    void line(int places) {
        make(places);
        for (int i = 1; i < places; i++) {
            x.way(i - 1, i, 1);
        }
    }

    /** SLIPS of KIND 1, DRAWN. */
    void slipsAt(int... places) {
        for (int p : places) {
            x.slip(p, 1);
        }
    }

    void row(int lot, int... slips) {
        x.unrow(lot);
        for (int s : slips) {
            x.row(lot, s);
        }
    }

    void childIn(int lot, boolean reads, int... q) {
        x.join(x.child(reads, q[0], q[1], q[2], q[3]), lot);
    }

    void type(String text) {
        for (int i = 0; i < text.length(); i++) {
            x.type(text.charAt(i), 1);
        }
    }

    /** What house() answers to this as THE TEXT. */
    int told(String text) {
        x.clear();
        type(text);
        return x.house();
    }
}
