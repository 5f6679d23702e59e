/** Counts what a test finds, and ends it. */
final class Check {
    private static final int MOST_TOLD = 20;

    private int right;
    private int wrong;

    void same(String what, long due, long got) {
        if (due == got) {
            right++;
        } else {
            fail(what + ": due " + due + ", got " + got);
        }
    }

    void that(String what, boolean holds) {
        if (holds) {
            right++;
        } else {
            fail(what);
        }
    }

    void fail(String what) {
        wrong++;
        if (wrong <= MOST_TOLD) {
            System.out.println("wrong: " + what);
        }
    }

    boolean isClean() {
        return wrong == 0;
    }

    void end(String name) {
        System.out.println(name + ": " + right + " checks right, " + wrong + " wrong");
        if (wrong > 0 || right == 0) {
            System.exit(1);
        }
    }
}
