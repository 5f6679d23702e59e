import java.math.BigInteger;
import java.util.ArrayList;
import java.util.List;

/** Promises 28 to 39: each sentence that names an edge has a test of its own here. */
final class RestEdgesTest extends Promises {
    private static final int[] NO_LOTS = {-1, 2, Integer.MIN_VALUE, Integer.MAX_VALUE, 1 << 30};
    private static final int BASE = 1 << 30;

    public static void main(String[] args) {
        RestEdgesTest t = new RestEdgesTest();
        t.hangs();
        t.hangsOfWhat();
        t.bearsOfFewAndMany();
        t.bearsOfSpareOnes();
        t.bearsOfWhat();
        t.soonOfWhich();
        t.soonFromWhere();
        t.soonAlongTheFirstPath();
        t.soonThroughTheFirstAndLast();
        t.soonOfWhat();
        t.reports();
        t.hard();
        t.hardOfWhat();
        t.signs();
        t.limbs();
        t.lowestTerms();
        t.images();
        t.whatImagesKeep();
        t.whatImagesKeepOfReports();
        t.whatImagesDoNotKeep();
        t.statusOfEach();
        t.status();
        t.counts();
        t.digestAtFirst();
        t.digestOfAll();
        t.check.end("RestEdgesTest");
    }

    /** Eight SLIPS in one PLACE. */
    private void onePlace() {
        make(1);
        slipsAt(0, 0, 0, 0, 0, 0, 0, 0);
        x.report(0, 1);
    }

    private void hangs() {
        for (int lot = 0; lot < 2; lot++) {
            int l = lot;
            edge(28, "not the first; a ROW of 1 .. 6 without SPARE ones, then with all SPARE");
            onePlace();
            for (int size = 1; size <= 6; size++) {
                int s = size;
                x.row(lot, 8 - size);
                due((1 << s) - 2, x.hangs(l));
            }
            for (int slip = 2; slip < 8; slip++) {
                x.spare(slip);
            }
            asks(0, () -> x.hangs(l));
            edge(28, "the SLIP ahead of it is SPARE");
            onePlace();
            row(lot, 7, 0, 6, 1, 5, 2);
            int[] left = {62 - 2, 62 - 4, 62 - 8, 62 - 16, 62 - 32, 62};
            int[] slips = {7, 0, 6, 1, 5, 2};
            x.image(0);
            for (int i = 0; i < 6; i++) {
                x.from(0);
                x.spare(slips[i]);
                due(left[i], x.hangs(lot));
            }
        }
    }

    private void hangsOfWhat() {
        edge(28, "NO: the ROW is empty");
        onePlace();
        no(() -> x.hangs(0));
        row(1, 0);
        no(() -> x.hangs(0));
        asks(0, () -> x.hangs(1));
        x.unrow(1);
        no(() -> x.hangs(1));
        edge(28, "there need be no START, CAKE or WALK");
        make(2);
        slipsAt(0, 1);
        row(0, 0, 1);
        asks(2, () -> x.hangs(0));
        x.put(3, 9);
        x.put(4, 9);
        asks(2, () -> x.hangs(0));
        edge(28, "BAD: a LOT that is none");
        onePlace();
        row(0, 0);
        row(1, 0);
        for (int lot : NO_LOTS) {
            bad(() -> x.hangs(lot));
        }
    }

    private void bearsOfFewAndMany() {
        edge(29, "each SLIP but the first is taken with WIND of 10");
        onePlace();
        long above = 1;
        long below = 1;
        for (int size = 1; size <= 6; size++) {
            x.row(0, size - 1);
            fraction(above, below, x.bears(0));
            above *= 9;
            below *= 10;
        }
        edge(29, "WIND 0");
        onePlace();
        row(0, 0, 1, 2, 3, 4, 5);
        x.put(2, 0);
        fraction(1, 1, x.bears(0));
        edge(29, "WIND 10");
        onePlace();
        row(0, 0);
        x.put(2, 10);
        fraction(1, 1, x.bears(0));
        row(0, 0, 1);
        fraction(0, 1, x.bears(0));
        x.spare(0);
        fraction(1, 1, x.bears(0));
        x.spare(1);
        row(0, 0, 1, 2);
        fraction(0, 1, x.bears(0));
        edge(29, "WIND 9, 6 SLIPS");
        onePlace();
        row(1, 0, 1, 2, 3, 4, 5);
        x.put(2, 9);
        fraction(1, 100000, x.bears(1));
    }

    private void bearsOfSpareOnes() {
        edge(29, "two running end it, too, if all are SPARE");
        onePlace();
        for (int slip = 0; slip < 6; slip++) {
            x.spare(slip);
        }
        x.put(2, 5);
        // Rows of heads and tails without two tails running: 1, 2, 3, 5, 8, 13 of 1, 2, 4, 8, 16, 32.
        long[] above = {1, 1, 3, 5, 1, 13};
        long[] below = {1, 1, 4, 8, 2, 32};
        for (int size = 1; size <= 6; size++) {
            x.row(0, size - 1);
            fraction(above[size - 1], below[size - 1], x.bears(0));
        }
        edge(29, "from the last but one there, if it is SPARE");
        onePlace();
        x.put(2, 5);
        row(0, 0, 1, 2);
        fraction(1, 4, x.bears(0));
        x.spare(2);
        fraction(1, 4, x.bears(0));
        x.spare(1);
        fraction(1, 2, x.bears(0));
        edge(29, "the first one is always there");
        onePlace();
        x.put(2, 10);
        x.spare(3);
        row(0, 3, 4);
        fraction(1, 1, x.bears(0));
        row(0, 4, 3);
        fraction(0, 1, x.bears(0));
        edge(29, "a SPARE one that is taken itself says nothing");
        onePlace();
        x.put(2, 5);
        x.spare(1);
        row(0, 0, 1, 2, 3);
        // 1 and 3 there, 2 or not.
        fraction(1, 4, x.bears(0));
    }

    private void bearsOfWhat() {
        edge(29, "NO: the ROW is empty");
        onePlace();
        no(() -> x.bears(0));
        no(() -> x.bears(1));
        row(1, 0);
        no(() -> x.bears(0));
        asks(1, () -> x.bears(1));
        edge(29, "there need be no START, CAKE or WALK");
        make(2);
        slipsAt(0, 1);
        row(0, 0, 1);
        fraction(9, 10, x.bears(0));
        x.put(3, 9);
        x.put(4, 9);
        fraction(9, 10, x.bears(0));
        edge(29, "BAD: a LOT that is none");
        onePlace();
        row(0, 0);
        row(1, 0);
        for (int lot : NO_LOTS) {
            bad(() -> x.bears(lot));
        }
    }

    private void soonOfWhich() {
        edge(30, "those at i and 2 or further on");
        onePlace();
        for (int size = 1; size <= 6; size++) {
            int all = (1 << size) - 1;
            x.row(0, 8 - size);
            asks(all & ~3, () -> x.soon(0));
        }
        edge(30, "the one 2 further on, not the next one");
        line(4);
        slipsAt(0, 1, 3, 3);
        row(0, 0, 1, 2);
        due(0, x.soon(0));
        x.sees(0, 1);
        due(0, x.soon(0));
        x.sees(0, 3);
        due(4, x.soon(0));
        edge(30, "not one that lies behind");
        line(4);
        slipsAt(1, 2, 3, 1, 1);
        row(0, 0, 1, 2);
        // From 3 back to the CAKE all are passed; but none is ahead.
        due(0, x.soon(0));
        x.sees(2, 1);
        x.sees(3, 1);
        due(0, x.soon(0));
        edge(30, "any that is further on: the last of six");
        make(7);
        for (int p = 1; p < 7; p++) {
            x.way(0, p, 1);
        }
        slipsAt(1, 2, 3, 4, 5, 6);
        row(0, 0, 1, 2, 3, 4, 5);
        due(0, x.soon(0));
        x.sees(2, 6);
        due(32, x.soon(0));
        x.sees(0, 3);
        due(36, x.soon(0));
    }

    private void soonFromWhere() {
        edge(30, "from both ends of the WALKS");
        line(4);
        x.place();
        x.way(3, 4, 9);
        slipsAt(0, 2, 4);
        row(0, 0, 1, 2);
        x.image(0);
        for (int p = 0; p < 5; p++) {
            x.from(0);
            x.sees(p, 4);
            // On the way from 0 to 2.
            due(p <= 2 ? 4 : 0, x.soon(0));
        }
        edge(30, "from no PLACE that is not on it");
        make(4);
        for (int p = 0; p < 3; p++) {
            x.way(p, 3, 1);
        }
        slipsAt(0, 3, 1, 2);
        row(0, 0, 1, 2);
        due(0, x.soon(0));
        row(0, 0, 1, 3);
        due(0, x.soon(0));
        edge(30, "one SEES from a PLACE, not towards it");
        line(3);
        slipsAt(0, 1, 2);
        row(0, 0, 1, 2);
        x.sees(2, 1);
        x.sees(2, 0);
        due(0, x.soon(0));
        x.sees(1, 2);
        due(4, x.soon(0));
        edge(30, "from a PLACE itself always");
        line(3);
        slipsAt(0, 2, 1);
        row(0, 0, 1, 2);
        due(4, x.soon(0));
        edge(30, "the first SLIP is read at START");
        line(3);
        slipsAt(0, 1, 2);
        row(0, 0, 1, 2);
        due(0, x.soon(0));
        x.put(3, 2);
        due(4, x.soon(0));
        edge(30, "on the WALKS to MISTAKEN ones, too");
        line(4);
        slipsAt(1, 2, 0);
        row(0, 0, 1, 2);
        x.put(3, 1);
        due(0, x.soon(0));
        x.means(0, 0);
        due(4, x.soon(0));
        edge(30, "not on WALKS that are not gone");
        line(4);
        slipsAt(1, 2, 3);
        row(0, 0, 1, 2);
        x.put(3, 1);
        x.means(0, 3);
        due(0, x.soon(0));
    }

    /** From 0 to 5 by 1 and 4, or, in as many minutes, by 2 and 3. */
    private void twoPaths() {
        make(6);
        x.way(0, 1, 1);
        x.way(1, 4, 1);
        x.way(4, 5, 1);
        x.way(0, 2, 1);
        x.way(2, 3, 1);
        x.way(3, 5, 1);
    }

    private void soonAlongTheFirstPath() {
        edge(30, "its PATH: of all such rows of PLACES the first");
        twoPaths();
        slipsAt(0, 5, 1, 2, 3, 4);
        int[] seen = {4, 0, 0, 4};
        for (int i = 0; i < 4; i++) {
            row(0, 0, 1, 2 + i);
            due(seen[i], x.soon(0));
        }
        edge(30, "the first by its PLACES in its own direction");
        twoPaths();
        slipsAt(5, 0, 1, 2, 3, 4);
        x.put(3, 5);
        int[] back = {0, 4, 4, 0};
        for (int i = 0; i < 4; i++) {
            row(0, 0, 1, 2 + i);
            due(back[i], x.soon(0));
        }
        edge(30, "of as many minutes by more PLACES, if that row is the first");
        line(4);
        x.way(0, 3, 3);
        slipsAt(0, 3, 2);
        row(0, 0, 1, 2);
        due(4, x.soon(0));
        x.way(0, 3, 2);
        due(0, x.soon(0));
    }

    private void soonThroughTheFirstAndLast() {
        edge(30, "on a PATH through the last PLACE");
        make(3);
        x.way(0, 2, 1);
        x.way(2, 1, 1);
        slipsAt(0, 1, 2);
        row(0, 0, 1, 2);
        due(4, x.soon(0));
        edge(30, "on a PATH through the first PLACE");
        make(3);
        x.way(1, 0, 1);
        x.way(0, 2, 1);
        slipsAt(1, 2, 0);
        row(0, 0, 1, 2);
        x.put(3, 1);
        due(4, x.soon(0));
        edge(30, "on a PATH of ten PLACES");
        line(10);
        slipsAt(0, 9, 4, 1, 8, 5);
        row(0, 0, 1, 2, 3, 4, 5);
        due(60, x.soon(0));
    }

    private void soonOfWhat() {
        edge(30, "BAD: a LOT that is none");
        onePlace();
        row(0, 0);
        row(1, 0);
        for (int lot : NO_LOTS) {
            bad(() -> x.soon(lot));
        }
        edge(30, "BAD ahead of NO");
        onePlace();
        bad(() -> x.soon(2));
        no(() -> x.soon(0));
        edge(30, "NO: no HUNT");
        onePlace();
        row(0, 0, 1, 2);
        due(4, x.soon(0));
        x.put(3, 1);
        no(() -> x.soon(0));
        x.put(3, 0);
        x.put(4, 1);
        no(() -> x.soon(0));
        x.place();
        no(() -> x.soon(0));
        x.way(0, 1, 9);
        due(4, x.soon(0));
    }

    private void reports() {
        edge(31, "minutes 1 .. 99");
        due(1, x.report(0, 1));
        due(2, x.report(0, 99));
        bad(() -> x.report(0, 0));
        bad(() -> x.report(0, 100));
        bad(() -> x.report(0, -1));
        for (int minutes : FAR_OFF) {
            bad(() -> x.report(0, minutes));
        }
        edge(31, "KINDS 0 .. 3");
        due(1, x.report(0, 5));
        due(2, x.report(3, 5));
        bad(() -> x.report(-1, 5));
        bad(() -> x.report(4, 5));
        for (int kind : FAR_OFF) {
            bad(() -> x.report(kind, 5));
        }
        edge(31, "FULL: 20");
        for (int i = 1; i <= 20; i++) {
            due(i - 1, x.count(5));
            due(i, x.report(i % 4, i));
        }
        full(() -> x.report(0, 1));
        full(() -> x.report(3, 99));
        bad(() -> x.report(4, 1));
        bad(() -> x.report(0, 0));
        due(20, x.hard(0, 1));
        due(19, x.hard(3, 1));
    }

    private void hard() {
        edge(32, "NO: none");
        for (int kind = 0; kind < 4; kind++) {
            int k = kind;
            for (int what = 0; what < 3; what++) {
                int w = what;
                no(() -> x.hard(k, w));
            }
            x.report(kind, 7);
            due(7, x.hard(kind, 0));
        }
        edge(32, "one REPORT");
        x.report(3, 99);
        due(99, x.hard(3, 0));
        due(99, x.hard(3, 1));
        fraction(99, 1, x.hard(3, 2));
        asks(1, () -> x.hard(3, 2));
        no(() -> x.hard(2, 2));
        edge(32, "the least and the greatest, whenever they were told");
        int[][] orders = {{4, 7, 9}, {4, 9, 7}, {7, 4, 9}, {7, 9, 4}, {9, 4, 7}, {9, 7, 4}};
        for (int[] order : orders) {
            x = new SlipHunt();
            for (int minutes : order) {
                x.report(1, minutes);
                x.report(2, 99);
                x.report(0, 1);
            }
            due(4, x.hard(1, 0));
            due(9, x.hard(1, 1));
            fraction(20, 3, x.hard(1, 2));
        }
        edge(32, "20 REPORTS of one KIND");
        for (int i = 0; i < 20; i++) {
            x.report(2, i == 7 ? 98 : 99);
        }
        due(98, x.hard(2, 0));
        due(99, x.hard(2, 1));
        fraction(1979, 20, x.hard(2, 2));
        edge(32, "the mean in lowest terms");
        x.report(0, 6);
        x.report(0, 9);
        x.report(0, 9);
        fraction(8, 1, x.hard(0, 2));
        x.report(0, 2);
        fraction(13, 2, x.hard(0, 2));
        x.report(0, 4);
        x.report(0, 4);
        fraction(17, 3, x.hard(0, 2));
    }

    private void hardOfWhat() {
        edge(32, "BAD: another KIND, another what");
        x.report(0, 5);
        x.report(3, 5);
        for (int v : new int[] {-1, 4, Integer.MIN_VALUE, Integer.MAX_VALUE}) {
            bad(() -> x.hard(v, 0));
        }
        for (int v : new int[] {-1, 3, Integer.MIN_VALUE, Integer.MAX_VALUE}) {
            bad(() -> x.hard(0, v));
        }
        edge(32, "BAD ahead of NO");
        bad(() -> x.hard(0, 3));
        bad(() -> x.hard(4, 2));
        no(() -> x.hard(0, 2));
    }

    /** 1 by 2 to the power 5 of each riddle: that none of them is had ahead of HELP 6. */
    private void half(int riddles) {
        make(1);
        childIn(0, true, 0, 5, 0, 0);
        slipsAt(0, 0, 0, 0, 0, 0);
        for (int i = 0; i < riddles; i++) {
            x.row(0, i);
        }
        x.put(0, 6);
        due(1, x.ends(0, 6 * riddles, 6 * riddles));
    }

    private void signs() {
        edge(33, "THE FRACTION 0 by 1: its sign, no limbs above, one below");
        due(0, x.sign(0));
        due(0, x.sign(1));
        due(1, x.sign(2));
        edge(33, "2 to the power 30 is the first number of two limbs");
        half(6);
        due(1, x.sign(0));
        due(1, x.sign(1));
        due(2, x.sign(2));
        edge(33, "2 to the power 25 has one limb");
        half(5);
        due(1, x.sign(0));
        due(1, x.sign(1));
        due(1, x.sign(2));
        asks(1, () -> x.sign(2));
        edge(33, "BAD");
        bad(() -> x.sign(3));
        bad(() -> x.sign(-1));
        for (int what : FAR_OFF) {
            bad(() -> x.sign(what));
        }
        fraction(0, 1);
    }

    private void limbs() {
        edge(34, "the base: 1073741824");
        half(6);
        fraction(1, BASE);
        due(1, x.limb(0, 0));
        due(0, x.limb(1, 0));
        due(1, x.limb(1, 1));
        due(NONE, x.limb(1, 2));
        edge(34, "NONE: not so many");
        due(NONE, x.limb(0, 0));
        due(1, x.limb(1, 0));
        due(NONE, x.limb(1, 1));
        for (int i : new int[] {2, 23, 24, 25, 1000, Integer.MAX_VALUE}) {
            due(NONE, x.limb(0, i));
            due(NONE, x.limb(1, i));
        }
        due(0, x.status(0) + x.status(1) + x.status(2));
        edge(34, "BAD: i below 0, too");
        bad(() -> x.limb(0, -1));
        bad(() -> x.limb(1, -1));
        bad(() -> x.limb(1, Integer.MIN_VALUE));
        edge(34, "BAD: which");
        bad(() -> x.limb(2, 0));
        bad(() -> x.limb(-1, 0));
        bad(() -> x.limb(2, 7));
        for (int which : FAR_OFF) {
            bad(() -> x.limb(which, 0));
        }
        edge(34, "as many limbs as there may be, the lowest first");
        make(1);
        childIn(0, true, 0, 9, 0, 0);
        childIn(0, true, 0, 9, 0, 0);
        childIn(0, true, 0, 9, 0, 0);
        childIn(0, true, 0, 9, 0, 0);
        childIn(0, true, 0, 9, 0, 0);
        childIn(0, true, 0, 9, 0, 0);
        slipsAt(0, 0, 0, 0, 0, 0);
        row(0, 0, 1, 2, 3, 4, 5);
        x.put(0, 6);
        due(1, x.ends(0, 36, 36));
        BigInteger below = BigInteger.TEN.pow(180);
        due(1, x.sign(1));
        due(20, x.sign(2));
        for (int i = 0; i < 20; i++) {
            due(below.shiftRight(30 * i).mod(BigInteger.valueOf(BASE)).longValue(), x.limb(1, i));
        }
        due(NONE, x.limb(1, 20));
        // All but this: a number as long above.
        due(1, x.ends(0, 0, 35));
        BigInteger above = below.subtract(BigInteger.ONE);
        due(20, x.sign(1));
        for (int i = 0; i < 20; i++) {
            due(above.shiftRight(30 * i).mod(BigInteger.valueOf(BASE)).longValue(), x.limb(0, i));
        }
        due(NONE, x.limb(0, 20));
    }

    private void lowestTerms() {
        edge(33, "lowest terms, below above 0");
        make(1);
        childIn(0, true, 5, 4, 8, 0);
        x.slip(0, 0);
        x.slip(0, 1);
        x.slip(0, 2);
        row(0, 0, 1, 2);
        fraction(1, 2, x.riddles(0, 0));
        fraction(2, 5, x.riddles(0, 1));
        fraction(4, 5, x.riddles(0, 2));
        fraction(0, 1, x.ends(0, 0, 0));
        fraction(1, 1, x.ends(0, 0, 999));
        edge(33, "THE FRACTION stays when a call is refused");
        x.report(0, 3);
        x.hard(0, 2);
        no(() -> x.length(0, 2));
        no(() -> x.bears(0));
        no(() -> x.hard(1, 2));
        bad(() -> x.hard(0, 3));
        fraction(3, 1);
        edge(33, "THE FRACTION stays when a call tells another number");
        onePlace();
        x.hard(0, 2);
        row(0, 0, 1, 2);
        row(1, 0);
        x.length(0, 0);
        x.length(0, 1);
        x.walk(0, 0);
        x.meet();
        x.apart(0);
        x.hangs(0);
        x.soon(0);
        x.hard(0, 0);
        x.hard(0, 1);
        x.clear();
        x.house();
        fraction(1, 1);
    }

    private void images() {
        edge(35, "BAD: another IMAGE");
        bad(() -> x.image(2));
        bad(() -> x.image(-1));
        for (int i : FAR_OFF) {
            bad(() -> x.image(i));
        }
        no(() -> x.from(0));
        no(() -> x.from(1));
        edge(36, "BAD: another IMAGE");
        x.image(0);
        x.image(1);
        bad(() -> x.from(2));
        bad(() -> x.from(-1));
        for (int i : FAR_OFF) {
            bad(() -> x.from(i));
        }
        edge(36, "NO: none was kept");
        no(() -> x.from(0));
        due(1, x.image(1));
        no(() -> x.from(0));
        due(1, x.from(1));
        due(1, x.image(0));
        due(1, x.from(0));
        edge(35, "an IMAGE of a new object");
        due(1, x.image(0));
        onePlace();
        due(1, x.from(0));
        for (int i = 0; i < 6; i++) {
            due(0, x.count(i));
        }
        edge(35, "an IMAGE is kept anew");
        x.image(0);
        x.place();
        due(1, x.image(0));
        x.place();
        due(1, x.from(0));
        due(1, x.count(0));
        edge(36, "it goes on from one, more than once; the other stays");
        x.place();
        x.image(0);
        x.place();
        x.image(1);
        for (int i = 0; i < 4; i++) {
            due(1, x.from(i % 2));
            due(1 + i % 2, x.count(0));
            x.place();
        }
    }

    private void whatImagesKeep() {
        edge(36, "IMAGES keep all but ..");
        make(10);
        for (int p = 1; p < 10; p++) {
            x.way(p, p - 1, p);
            x.sees(p, 9 - p);
        }
        for (int c = 0; c < 6; c++) {
            childIn(c % 2, c > 2, c, 9, 9 - c, 1);
            x.bar(c, 9 - c);
        }
        for (int s = 0; s < 8; s++) {
            x.slip(9 - s, s % 4);
            if (s % 2 == 0) {
                x.spare(s);
            }
            x.means(s, s + 2);
        }
        row(0, 7, 6, 5, 4, 3, 2);
        row(1, 0, 2, 4, 6, 1, 3);
        int[] put = {6, 200, 10, 9, 8};
        for (int i = 0; i < 5; i++) {
            x.put(i, put[i]);
        }
        for (int i = 0; i < 20; i++) {
            x.report(i % 4, 1 + i);
        }
        long before = x.digest();
        x.image(1);
        due(0, told(""));
        for (int i = 0; i < 5; i++) {
            x.put(i, 1);
        }
        due(1, x.from(1));
        due(before, x.digest());
        full(() -> x.place());
        full(() -> x.report(0, 1));
        no(() -> x.row(1, 3));
        no(() -> x.means(7, 9));
        due(1, x.join(5, -1));
        due(9, x.walk(9, 8));
    }

    private void whatImagesKeepOfReports() {
        edge(36, "REPORTS, if others came instead of them");
        x.image(0);
        x.report(0, 1);
        x.report(1, 2);
        x.image(1);
        x.from(0);
        x.report(3, 50);
        x.report(2, 60);
        x.report(2, 70);
        due(1, x.from(1));
        due(2, x.count(5));
        due(1, x.hard(0, 0));
        due(2, x.hard(1, 1));
        no(() -> x.hard(3, 0));
        no(() -> x.hard(2, 0));
    }

    private void whatImagesDoNotKeep() {
        edge(36, ".. THE TEXT");
        type("place;");
        x.image(0);
        x.clear();
        type("place;place;");
        due(1, x.from(0));
        due(12, x.count(6));
        due(2, x.house());
        edge(36, ".. THE FRACTION");
        x.report(0, 3);
        x.report(1, 8);
        x.hard(0, 2);
        x.image(0);
        x.hard(1, 2);
        due(1, x.from(0));
        fraction(8, 1);
        edge(36, ".. STATUS");
        bad(() -> x.unrow(7));
        x.image(0);
        bad(() -> x.unrow(7));
        no(() -> x.hangs(0));
        due(1, x.from(0));
        due(2, x.status(0));
        due(1, x.status(1));
        edge(36, ".. and them");
        x.image(0);
        x.place();
        x.image(1);
        due(1, x.from(0));
        due(0, x.count(0));
        due(1, x.from(1));
        due(1, x.count(0));
    }

    private void statusOfEach() {
        edge(37, "how many were refused as BAD, NO, FULL");
        make(10);
        for (int i = 0; i < 3; i++) {
            x.place();
        }
        due(3, x.status(2));
        due(0, x.status(0));
        due(0, x.status(1));
        for (int i = 0; i < 5; i++) {
            x.hangs(0);
        }
        due(5, x.status(1));
        for (int i = 0; i < 7; i++) {
            x.way(0, 0, 0);
        }
        due(7, x.status(0));
        due(5, x.status(1));
        due(3, x.status(2));
        edge(37, "answers told otherwise count as these");
        x.join(0, 0);
        x.apart(6);
        x.apart(0);
        due(2, x.status(0));
        due(1, x.status(1));
        due(0, x.status(2));
        edge(37, "answers below 0 that refuse nothing");
        onePlace();
        x.place();
        row(0, 0);
        row(1, 0);
        due(NONE, x.walk(0, 1));
        due(NONE, x.limb(0, 5));
        x.child(true, 1, 1, 1, 1);
        due(NONE, x.join(0, 1));
        due(-5, x.order(0, 5));
        due(-5, x.kinds(0, 5));
        due(-5, x.apart(5));
        due(-10, told("-"));
        due(-1000, told("spare 7;"));
        for (int i = 0; i < 3; i++) {
            due(0, x.status(i));
        }
    }

    private void status() {
        edge(37, "-1: another what (counts as BAD)");
        badTold(-1, () -> x.status(3));
        badTold(-1, () -> x.status(-1));
        for (int what : FAR_OFF) {
            badTold(-1, () -> x.status(what));
        }
        due(2 + FAR_OFF.length, x.status(0));
        due(0, x.status(1));
        due(0, x.status(2));
        // To ask for it counts as nothing.
        due(2 + FAR_OFF.length, x.status(0));
    }

    private void counts() {
        edge(38, "nothing, then all there may be");
        for (int i = 0; i < 7; i++) {
            due(0, x.count(i));
        }
        make(11);
        for (int c = 0; c < 7; c++) {
            x.child(true, 1, 1, 1, 1);
        }
        for (int s = 0; s < 9; s++) {
            x.slip(0, 0);
        }
        for (int s = 0; s < 7; s++) {
            x.row(0, s);
            x.row(1, s);
        }
        for (int r = 0; r < 21; r++) {
            x.report(0, 1);
        }
        type(" ".repeat(300));
        x.type(0, 1);
        int[] most = {10, 6, 8, 6, 6, 20, 300};
        for (int what = 0; what < 7; what++) {
            due(most[what], x.count(what));
        }
        edge(38, "BAD");
        bad(() -> x.count(7));
        bad(() -> x.count(-1));
        for (int what : FAR_OFF) {
            bad(() -> x.count(what));
        }
    }

    /** As the document says it, with whole numbers of any size, cut down to 64 bits at the end. */
    private static long folded(List<Integer> all) {
        BigInteger h = BigInteger.valueOf(577);
        for (int v : all) {
            h = h.multiply(BigInteger.valueOf(31)).add(BigInteger.valueOf(v));
        }
        return h.longValue();
    }

    private void digestAtFirst() {
        edge(39, "a new object");
        due(folded(List.of(0, 0, 0, 0, 0, 0, 0, 4, 30, 1, 0, 0, 0, 0, 1, 1)), x.digest());
        due(x.digest(), x.digest());
    }

    /** Beyond 64 bits it wraps around. */
    private void digestOfAll() {
        edge(39, "all there may be");
        List<Integer> all = new ArrayList<>(List.of(10, 6, 8, 6, 6, 20, 300));
        make(10);
        for (int p = 0; p < 10; p++) {
            for (int q = 0; q < p; q++) {
                x.way(q, p, (p + q) % 10);
                all.add((p + q) % 10);
            }
            x.sees(p, 9 - p);
            x.sees(p, (p + 1) % 10);
            all.add(1 << 9 - p | 1 << (p + 1) % 10);
        }
        for (int c = 0; c < 6; c++) {
            childIn(c % 3 - 1, c % 2 == 1, 9, c, 0, 9 - c);
            x.bar(c, 9);
            x.bar(c, c);
            all.addAll(List.of(c % 2, 9, c, 0, 9 - c, 1 << 9 | 1 << c, c % 3 - 1));
        }
        for (int s = 0; s < 8; s++) {
            x.slip(9 - s, 3 - s % 4);
            x.means(s, 9);
            x.means(s, s);
            if (s > 3) {
                x.spare(s);
            }
            all.addAll(List.of(9 - s, 3 - s % 4, s > 3 ? 1 : 0, 1 << 9 | 1 << s));
        }
        for (int i = 0; i < 6; i++) {
            x.row(0, 7 - i);
            all.add(7 - i);
        }
        for (int i = 0; i < 6; i++) {
            x.row(1, i);
            all.add(i);
        }
        int[] put = {6, 200, 10, 9, 8};
        for (int i = 0; i < 5; i++) {
            x.put(i, put[i]);
            all.add(put[i]);
        }
        for (int i = 0; i < 20; i++) {
            x.report(i % 4, 99 - i);
            all.add(i % 4);
            all.add(99 - i);
        }
        type("z".repeat(300));
        x.put(2, 0);
        due(1, x.bears(0));
        x.put(2, 10);
        all.addAll(List.of(1, 1, 1, 1, 1));
        due(folded(all), x.digest());
        due(folded(all), x.digest());
    }
}
