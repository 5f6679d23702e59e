import java.math.BigInteger;
import java.util.function.IntSupplier;

/** What the tests of single promises share; their dues are reckoned by hand from the document. */
abstract class Promises {
    static final int NONE = -1, BAD = -2, NO = -3, FULL = -4;
    /** Numbers that no call takes for one of a PLACE, CHILD, SLIP, LOT, KIND, .. */
    static final int[] FAR_OFF = {Integer.MIN_VALUE, Integer.MIN_VALUE + 1, -256, Integer.MAX_VALUE, 1 << 30, 1024};

    final Check check = new Check();
    SlipHunt x;
    private int promise;
    private String sentence = "";

    /** A new object, to test this promise with. */
    void begin(int number) {
        goOn(number);
        x = new SlipHunt();
    }

    /** The same object, for another promise. */
    void goOn(int number) {
        promise = number;
        sentence = "";
    }

    /** A new object, to test one sentence of this promise with: its words, or what they come to at an edge. */
    void edge(int number, String words) {
        begin(number);
        sentence = ", " + words;
    }

    private String where() {
        return "promise " + promise + sentence + " (line " + line() + ")";
    }

    void due(long due, long got) {
        check.same(where(), due, got);
    }

    /** The line of the test that asked. */
    private int line() {
        String test = getClass().getName();
        for (StackTraceElement e : Thread.currentThread().getStackTrace()) {
            if (e.getClassName().equals(test)) {
                return e.getLineNumber();
            }
        }
        return 0;
    }

    /** A call that is refused: its answer, one more in STATUS, and nothing else of what can be asked. */
    private void refused(int counted, int answer, IntSupplier call) {
        int[] before = {x.status(0), x.status(1), x.status(2)};
        long digest = x.digest();
        due(answer, call.getAsInt());
        due(digest, x.digest());
        for (int i = 0; i < 3; i++) {
            due(before[i] + (i == counted ? 1 : 0), x.status(i));
        }
    }

    void bad(IntSupplier call) {
        refused(0, BAD, call);
    }

    void badTold(int answer, IntSupplier call) {
        refused(0, answer, call);
    }

    void no(IntSupplier call) {
        refused(1, NO, call);
    }

    void noTold(int answer, IntSupplier call) {
        refused(1, answer, call);
    }

    void full(IntSupplier call) {
        refused(2, FULL, call);
    }

    /** A call that only asks: its answer, and nothing else of what can be asked but, maybe, THE FRACTION. */
    void asks(int due, IntSupplier call) {
        int kind = reportedKind();
        int[] before = {x.status(0), x.status(1), x.status(2)};
        long digest = digestWithMean(kind);
        due(due, call.getAsInt());
        long kept = x.digest();
        due(due, call.getAsInt());
        due(kept, x.digest());
        due(digest, digestWithMean(kind));
        for (int i = 0; i < 3; i++) {
            due(before[i], x.status(i));
        }
    }

    /** A KIND with a REPORT. */
    private int reportedKind() {
        for (int kind = 0; kind < 4; kind++) {
            if (x.count(5) > 0 && x.hard(kind, 0) > 0) {
                return kind;
            }
        }
        x.report(0, 1);
        return 0;
    }

    /** The digest once THE FRACTION is one that does not hang on what was asked. */
    private long digestWithMean(int kind) {
        x.hard(kind, 2);
        return x.digest();
    }

    /** What a call answers with 1 when THE FRACTION tells the rest. */
    void fraction(long above, long below, int answer) {
        due(1, answer);
        fraction(above, below);
    }

    /** THE FRACTION, of numbers that a long holds. */
    void fraction(long above, long below) {
        due(above == 0 ? 0 : 1, x.sign(0));
        part(0, above);
        part(1, below);
    }

    /** THE FRACTION, of numbers of any size; they need not be in lowest terms. */
    void fraction(BigInteger above, BigInteger below) {
        BigInteger common = above.gcd(below);
        due(above.signum(), x.sign(0));
        part(0, above.divide(common));
        part(1, below.divide(common));
    }

    private void part(int which, BigInteger v) {
        int size = (v.bitLength() + 29) / 30;
        due(size, x.sign(1 + which));
        for (int i = 0; i < size; i++) {
            due(v.shiftRight(30 * i).intValue() & (1 << 30) - 1, x.limb(which, i));
        }
        due(NONE, x.limb(which, size));
    }

    private void part(int which, long v) {
        int size = 0;
        for (long rest = v; rest > 0; rest >>= 30) {
            due(rest & (1 << 30) - 1, x.limb(which, size));
            size++;
        }
        due(NONE, x.limb(which, size));
        due(size, x.sign(1 + which));
    }

    void make(int places) {
        for (int i = 0; i < places; i++) {
            x.place();
        }
    }

    /** PLACES in a line, each a minute from the next. */
    void line(int places) {
        make(places);
        for (int i = 1; i < places; i++) {
            x.way(i - 1, i, 1);
        }
    }

    /** SLIPS of KIND 1, DRAWN. */
    void slipsAt(int... places) {
        for (int p : places) {
            x.slip(p, 1);
        }
    }

    void row(int lot, int... slips) {
        x.unrow(lot);
        for (int s : slips) {
            x.row(lot, s);
        }
    }

    void childIn(int lot, boolean reads, int... q) {
        x.join(x.child(reads, q[0], q[1], q[2], q[3]), lot);
    }

    /** As few calls as may be: an object is used for 512. */
    void type(String text) {
        for (int i = 0; i < text.length();) {
            int n = Math.min(8, text.length() - i);
            long v = 0;
            for (int k = 0; k < n; k++, i++) {
                v = v << 8 | text.charAt(i);
            }
            x.type(v, n);
        }
    }

    /** What house() answers to this as THE TEXT. */
    int told(String text) {
        x.clear();
        type(text);
        return x.house();
    }
}
