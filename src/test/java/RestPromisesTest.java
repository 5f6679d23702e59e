/** Promises 28 to 39: what may go wrong, and what there is. */
final class RestPromisesTest extends Promises {
    public static void main(String[] args) {
        RestPromisesTest t = new RestPromisesTest();
        t.hangs();
        t.bears();
        t.soon();
        t.soonAlongTheFirstPath();
        t.soonOnDetours();
        t.reports();
        t.hard();
        t.signs();
        t.limbs();
        t.images();
        t.status();
        t.counts();
        t.digests();
        t.check.end("RestPromisesTest");
    }

    private void hangs() {
        begin(28);
        make(1);
        slipsAt(0, 0, 0, 0, 0, 0);
        due(NO, x.hangs(0));
        row(0, 5);
        due(0, x.hangs(0));
        row(0, 5, 0, 1, 2, 3, 4);
        due(62, x.hangs(0));
        x.spare(5);
        due(60, x.hangs(0));
        x.spare(3);
        due(28, x.hangs(0));
        x.spare(4);
        due(28, x.hangs(0));
        // There need be no HUNT.
        x.put(3, 9);
        row(1, 0, 5, 1);
        due(2, x.hangs(1));
        due(BAD, x.hangs(2));
        due(BAD, x.hangs(-1));
    }

    private void bears() {
        begin(29);
        make(1);
        slipsAt(0, 0, 0);
        due(NO, x.bears(0));
        row(0, 0);
        fraction(1, 1, x.bears(0));
        row(0, 0, 1, 2);
        x.put(2, 5);
        fraction(1, 4, x.bears(0));
        x.spare(0);
        // All but 1 may be taken: it, or 2 behind it there.
        fraction(1, 2, x.bears(0));
        x.spare(1);
        fraction(3, 4, x.bears(0));
        x.spare(2);
        fraction(3, 4, x.bears(0));
        x.put(2, 10);
        fraction(0, 1, x.bears(0));
        row(0, 0, 1);
        fraction(1, 1, x.bears(0));
        x.put(2, 0);
        row(0, 2, 1, 0);
        fraction(1, 1, x.bears(0));
        // There need be no HUNT.
        x.put(4, 9);
        x.put(2, 1);
        fraction(99, 100, x.bears(0));
        due(BAD, x.bears(2));
        due(BAD, x.bears(-1));
        due(NO, x.bears(1));
        fraction(99, 100);
    }

    private void soon() {
        begin(30);
        line(5);
        slipsAt(0, 3, 1, 4, 2);
        row(0, 0, 1);
        due(0, x.soon(0));
        row(0, 0, 1, 2);
        due(4, x.soon(0));
        row(0, 0, 1, 2, 3);
        due(4, x.soon(0));
        x.sees(4, 2);
        due(4, x.soon(0));
        x.sees(2, 4);
        due(12, x.soon(0));
        row(0, 0, 2, 4, 1, 3);
        due(16, x.soon(0));
        // The first one is read at START: what is SEEN on the way to the second counts, both ends too.
        x.put(3, 4);
        row(0, 2, 1, 3);
        due(4, x.soon(0));
        x.put(3, 0);
        row(0, 0, 2, 3);
        due(0, x.soon(0));
        x.sees(0, 4);
        due(4, x.soon(0));
        due(BAD, x.soon(2));
        due(BAD, x.soon(-1));
        due(NO, x.soon(1));
    }

    private void soonAlongTheFirstPath() {
        begin(30);
        make(4);
        x.way(0, 1, 1);
        x.way(0, 2, 1);
        x.way(1, 3, 1);
        x.way(2, 3, 1);
        slipsAt(0, 3, 1, 2);
        row(0, 0, 1, 2);
        due(4, x.soon(0));
        row(0, 0, 1, 3);
        due(0, x.soon(0));
        x.way(1, 3, 2);
        due(4, x.soon(0));
        row(0, 0, 1, 2);
        due(0, x.soon(0));
        // Fewest minutes, not fewest PLACES.
        x.way(0, 3, 3);
        row(0, 0, 1, 3);
        due(4, x.soon(0));
    }

    private void soonOnDetours() {
        begin(30);
        line(5);
        slipsAt(2, 3, 0, 1);
        x.put(3, 2);
        row(0, 0, 1, 2);
        due(0, x.soon(0));
        x.means(0, 1);
        due(0, x.soon(0));
        x.means(0, 0);
        due(4, x.soon(0));
    }

    private void reports() {
        begin(31);
        due(BAD, x.report(4, 5));
        due(BAD, x.report(-1, 5));
        due(BAD, x.report(0, 0));
        due(BAD, x.report(0, 100));
        for (int i = 1; i <= 20; i++) {
            due(i, x.report(i % 4, i == 1 ? 1 : 99));
        }
        due(FULL, x.report(0, 1));
        due(BAD, x.report(0, 100));
        due(20, x.count(5));
    }

    private void hard() {
        begin(32);
        due(NO, x.hard(0, 0));
        x.report(2, 7);
        due(7, x.hard(2, 0));
        due(7, x.hard(2, 1));
        fraction(7, 1, x.hard(2, 2));
        x.report(2, 4);
        x.report(1, 99);
        x.report(2, 9);
        due(4, x.hard(2, 0));
        due(9, x.hard(2, 1));
        fraction(20, 3, x.hard(2, 2));
        x.report(2, 2);
        fraction(11, 2, x.hard(2, 2));
        due(NO, x.hard(3, 2));
        due(BAD, x.hard(4, 0));
        due(BAD, x.hard(-1, 0));
        due(BAD, x.hard(2, 3));
        due(BAD, x.hard(2, -1));
        fraction(11, 2);
    }

    /** Five riddles of 9/10 with HELP 6: the greatest LENGTH has a chance of 10 to the -25. */
    private void rare() {
        make(1);
        childIn(0, true, 0, 9, 0, 0);
        slipsAt(0, 0, 0, 0, 0);
        row(0, 0, 1, 2, 3, 4);
        x.put(0, 6);
        due(1, x.ends(0, 30, 30));
    }

    private void signs() {
        begin(33);
        due(0, x.sign(0));
        due(0, x.sign(1));
        due(1, x.sign(2));
        rare();
        due(1, x.sign(0));
        due(1, x.sign(1));
        due(3, x.sign(2));
        due(BAD, x.sign(3));
        due(BAD, x.sign(-1));
        due(2, x.status(0));
    }

    private void limbs() {
        begin(34);
        due(NONE, x.limb(0, 0));
        due(1, x.limb(1, 0));
        due(NONE, x.limb(1, 1));
        rare();
        due(1, x.limb(0, 0));
        java.math.BigInteger below = java.math.BigInteger.TEN.pow(25);
        for (int i = 0; i < 3; i++) {
            due(below.shiftRight(30 * i).intValue() & (1 << 30) - 1, x.limb(1, i));
        }
        due(NONE, x.limb(1, 3));
        due(NONE, x.limb(1, Integer.MAX_VALUE));
        due(NONE, x.limb(0, 1));
        due(BAD, x.limb(2, 0));
        due(BAD, x.limb(-1, 0));
        due(BAD, x.limb(0, -1));
        due(BAD, x.limb(1, Integer.MIN_VALUE));
        due(4, x.status(0));
        due(0, x.status(1));
    }

    private void images() {
        begin(35);
        due(NO, x.from(0));
        due(1, x.image(1));
        due(NO, x.from(0));
        line(2);
        childIn(0, true, 1, 2, 3, 4);
        slipsAt(0, 1);
        row(0, 0, 1);
        x.put(1, 99);
        x.report(0, 5);
        due(1, x.image(0));
        due(BAD, x.image(2));
        due(BAD, x.image(-1));
        long before = x.digest();

        x.place();
        x.way(0, 1, 9);
        x.sees(0, 1);
        x.child(true, 1, 1, 1, 1);
        x.bar(0, 0);
        x.join(0, 1);
        slipsAt(2);
        x.spare(0);
        x.means(0, 0);
        x.row(0, 2);
        x.row(1, 0);
        x.put(1, 11);
        x.report(1, 6);
        goneOnFrom(before);
    }

    private void goneOnFrom(long before) {
        goOn(36);
        due(1, x.from(0));
        due(before, x.digest());
        due(99, x.put(1, 99));
        // An IMAGE is not worn out, nor changed by what comes after it.
        x.place();
        x.put(1, 12);
        due(1, x.from(0));
        due(before, x.digest());
        // THE TEXT, THE FRACTION and STATUS are not in it.
        type("place;");
        x.hard(0, 2);
        due(1, x.from(1));
        due(6, x.count(6));
        fraction(5, 1);
        due(2, x.status(0));
        due(0, x.count(0));
        due(0, x.count(5));
        due(30, x.put(1, 30));
        due(BAD, x.from(2));
        due(BAD, x.from(-1));
        // An IMAGE stays when others are gone on from; it may be kept anew.
        due(1, x.image(0));
        due(1, x.from(0));
        due(0, x.count(1));
    }

    private void status() {
        begin(37);
        x.way(0, 0, 0);
        x.unrow(5);
        x.join(0, 0);
        x.apart(9);
        x.hangs(0);
        x.apart(0);
        for (int i = 0; i < 11; i++) {
            x.place();
        }
        due(4, x.status(0));
        due(2, x.status(1));
        due(1, x.status(2));
        due(-1, x.status(3));
        due(-1, x.status(-1));
        due(6, x.status(0));
        // These refuse nothing.
        x.walk(0, 1);
        x.limb(0, 3);
        told("zzz");
        told("way 0 0 0;");
        due(6, x.status(0));
        due(2, x.status(1));
        due(1, x.status(2));
    }

    private void counts() {
        begin(38);
        make(3);
        childIn(0, true, 1, 1, 1, 1);
        childIn(0, true, 1, 1, 1, 1);
        slipsAt(0, 0, 0, 0);
        row(0, 0);
        row(1, 0, 1, 2, 3);
        for (int i = 0; i < 5; i++) {
            x.report(0, 1);
        }
        x.type(0, 7);
        int[] due = {3, 2, 4, 1, 4, 5, 7};
        for (int i = 0; i < 7; i++) {
            due(due[i], x.count(i));
        }
        due(BAD, x.count(7));
        due(BAD, x.count(-1));
        due(2, x.status(0));
    }

    private void digests() {
        begin(39);
        due(folded(0, 0, 0, 0, 0, 0, 0, 4, 30, 1, 0, 0, 0, 0, 1, 1), x.digest());
        make(3);
        x.way(1, 0, 5);
        x.way(2, 1, 7);
        x.sees(0, 2);
        x.sees(2, 0);
        x.sees(2, 1);
        x.child(true, 1, 2, 3, 4);
        childIn(1, false, 5, 6, 7, 8);
        x.bar(1, 0);
        x.bar(1, 2);
        x.slip(2, 3);
        x.slip(0, 1);
        x.spare(0);
        x.means(1, 1);
        x.means(1, 2);
        row(0, 1);
        row(1, 1, 0);
        x.put(0, 6);
        x.put(4, 9);
        x.report(3, 50);
        x.report(0, 3);
        x.type(0, 2);
        x.hard(0, 2);
        long due = folded(3, 2, 2, 1, 2, 2, 2,
                4, 5, 0, 0, 7, 3,
                1, 1, 2, 3, 4, 0, -1, 0, 5, 6, 7, 8, 5, 1,
                2, 3, 1, 0, 0, 1, 0, 6,
                1, 1, 0,
                6, 30, 1, 0, 9,
                3, 50, 0, 3,
                1, 1, 1, 3, 1);
        due(due, x.digest());
        due(due, x.digest());
        // Neither STATUS nor an IMAGE is told.
        x.status(9);
        x.image(0);
        due(due, x.digest());
    }

    private static long folded(int... all) {
        long h = 577;
        for (int v : all) {
            h = 31 * h + v;
        }
        return h;
    }
}
