import java.math.BigInteger;
import java.util.function.IntSupplier;

/** Promises 17 to 22: each sentence that names an edge has a test of its own here. */
final class HuntEdgesTest extends Promises {
    private static final int[] NO_LOTS = {-1, 2, Integer.MIN_VALUE, Integer.MAX_VALUE, 1 << 30};

    public static void main(String[] args) {
        HuntEdgesTest t = new HuntEdgesTest();
        t.walks();
        t.walksThatAreNot();
        t.noStart();
        t.noCake();
        t.emptyRow();
        t.noWalk();
        t.whereTheFirstLiesIsNoMatter();
        t.riddlesNotSoMany();
        t.riddlesOfWhom();
        t.riddlesFromLeastToMost();
        t.lengths();
        t.lengthsOfEachHelp();
        t.lengthsOfLegsThatDiffer();
        t.lengthsOfWhat();
        t.mistakes();
        t.mistakesFromWhereTheyAre();
        t.mistakesOfWhichSlip();
        t.ends();
        t.endsOfWhat();
        t.guessed();
        t.guessedByTheLeast();
        t.fair();
        t.check.end("HuntEdgesTest");
    }

    private void walks() {
        edge(17, "to itself 0");
        make(10);
        for (int place = 0; place < 10; place += 3) {
            int p = place;
            asks(0, () -> x.walk(p, p));
        }
        x.way(0, 9, 9);
        asks(0, () -> x.walk(9, 9));
        edge(17, "the fewest minutes");
        make(3);
        x.way(0, 1, 9);
        x.way(0, 2, 4);
        x.way(2, 1, 4);
        asks(8, () -> x.walk(0, 1));
        asks(8, () -> x.walk(1, 0));
        x.way(1, 2, 5);
        due(9, x.walk(0, 1));
        x.way(1, 2, 6);
        due(9, x.walk(0, 1));
        x.way(1, 2, 0);
        due(9, x.walk(1, 0));
        edge(17, "as far as may be");
        make(10);
        for (int p = 1; p < 10; p++) {
            x.way(p, p - 1, 9);
        }
        asks(81, () -> x.walk(0, 9));
        asks(81, () -> x.walk(9, 0));
        x.way(0, 9, 1);
        asks(1, () -> x.walk(0, 9));
        asks(9 * 4 + 1, () -> x.walk(5, 0));
        asks(9 * 4, () -> x.walk(4, 0));
    }

    private void walksThatAreNot() {
        edge(17, "NONE: there is none");
        make(4);
        x.way(0, 1, 1);
        x.way(2, 3, 1);
        asks(NONE, () -> x.walk(0, 2));
        asks(NONE, () -> x.walk(3, 1));
        asks(1, () -> x.walk(3, 2));
        x.way(1, 2, 9);
        asks(11, () -> x.walk(3, 0));
        edge(17, "BAD: a PLACE that is not there");
        make(3);
        for (int p : new int[] {-1, 3, 9, 10, Integer.MIN_VALUE, Integer.MAX_VALUE, 1 << 30}) {
            bad(() -> x.walk(p, 0));
            bad(() -> x.walk(2, p));
            bad(() -> x.walk(p, p));
        }
    }

    /** One PLACE, a CHILD in each LOT, SLIPS 0 and 1 of KIND 1 there, each LOT's ROW both of them. */
    private void smallHunts() {
        make(1);
        childIn(0, true, 0, 5, 0, 0);
        childIn(1, true, 0, 5, 0, 0);
        slipsAt(0, 0);
        row(0, 0, 1);
        row(1, 1, 0);
        x.report(0, 1);
        x.hard(0, 2);
    }

    /** All that asks of a HUNT of this LOT (its CHILD has the LOT's number), but riddles and order. */
    private void allNo(int lot) {
        IntSupplier[] all = {() -> x.length(lot, 0), () -> x.length(lot, 1), () -> x.length(lot, 2),
            () -> x.ends(lot, 0, 999), () -> x.guessed(lot), () -> x.fair(lot), () -> x.kinds(lot, 0), () -> x.kinds(lot, 5),
            () -> x.meet(), () -> x.sooner(lot), () -> x.soon(lot)};
        for (IntSupplier one : all) {
            no(one);
        }
        noTold(-20, () -> x.apart(-1));
        noTold(-20, () -> x.apart(5));
    }

    private void noStart() {
        for (int lot = 0; lot < 2; lot++) {
            edge(18 + lot, "NO, if START is not there");
            smallHunts();
            int l = lot;
            x.put(3, 1);
            allNo(lot);
            no(() -> x.riddles(l, 0));
            no(() -> x.order(l, 0));
            no(() -> x.order(l, 5));
            x.place();
            x.way(0, 1, 1);
            due(1, x.riddles(lot, 0));
        }
    }

    private void noCake() {
        for (int lot = 0; lot < 2; lot++) {
            edge(18 + lot, "NO, if CAKE is not there");
            smallHunts();
            int l = lot;
            x.put(4, 9);
            allNo(lot);
            no(() -> x.riddles(l, 1));
            no(() -> x.order(l, 0));
            x.put(4, 0);
            due(1, x.riddles(lot, 1));
        }
    }

    private void emptyRow() {
        for (int lot = 0; lot < 2; lot++) {
            edge(18 + lot, "NO, if its ROW is empty");
            smallHunts();
            int l = lot;
            x.unrow(lot);
            allNo(lot);
            no(() -> x.order(l, 0));
            no(() -> x.order(l, 5));
            edge(18, "BAD: not so many: an empty ROW");
            smallHunts();
            x.unrow(lot);
            bad(() -> x.riddles(l, 0));
            due(1, x.riddles(1 - lot, 0));
        }
    }

    private void noWalk() {
        for (int lot = 0; lot < 2; lot++) {
            int l = lot;
            edge(18 + lot, "NO, if there is no WALK to the CAKE");
            smallHunts();
            x.place();
            x.put(4, 1);
            allNo(lot);
            no(() -> x.riddles(l, 0));
            no(() -> x.order(l, 0));
            x.way(0, 1, 9);
            due(1, x.riddles(lot, 0));
            edge(18 + lot, "NO, if there is no WALK to a SLIP behind the first");
            smallHunts();
            x.place();
            slipsAt(1);
            row(lot, 0, 1, 2);
            allNo(lot);
            no(() -> x.riddles(l, 0));
            // By another order there is one.
            due(2, x.order(lot, 0));
            edge(18 + lot, "NO, if there is no WALK to any order");
            smallHunts();
            x.place();
            slipsAt(1, 1);
            row(lot, 0, 2, 3);
            no(() -> x.order(l, 0));
            no(() -> x.order(l, 4));
            edge(18 + lot, "MISTAKEN ones need no WALK");
            smallHunts();
            x.place();
            x.means(0, 1);
            x.means(1, 1);
            due(8, x.length(lot, 1));
        }
    }

    private void whereTheFirstLiesIsNoMatter() {
        edge(19, "the first SLIP is read at START");
        line(3);
        x.place();
        slipsAt(3, 2);
        row(0, 0, 1);
        x.put(3, 1);
        // 4 at 1, a minute, 4 at 2, two minutes.
        due(11, x.length(0, 0));
        x.put(4, 2);
        due(9, x.length(0, 0));
        x.put(3, 2);
        due(8, x.length(0, 0));
    }

    private void riddlesNotSoMany() {
        edge(18, "BAD: not so many");
        smallHunts();
        slipsAt(0, 0, 0, 0, 0, 0);
        x.unrow(0);
        for (int size = 1; size <= 6; size++) {
            x.row(0, 8 - size);
            due(1, x.riddles(0, size - 1));
            for (int i = size; i <= 6; i++) {
                due(BAD, x.riddles(0, i));
            }
        }
        due(21, x.status(0));
        bad(() -> x.riddles(0, 6));
        bad(() -> x.riddles(0, -1));
        bad(() -> x.riddles(1, 2));
        for (int i : FAR_OFF) {
            bad(() -> x.riddles(0, i));
        }
        for (int lot : NO_LOTS) {
            bad(() -> x.riddles(lot, 0));
        }
        edge(18, "BAD ahead of NO");
        smallHunts();
        x.put(3, 9);
        bad(() -> x.riddles(0, 2));
        bad(() -> x.riddles(2, 0));
        no(() -> x.riddles(0, 1));
    }

    private void riddlesOfWhom() {
        boolean[][] has = {{false, true}, {true, true}, {false, true}, {true, false}};
        for (int kind = 0; kind < 4; kind++) {
            for (int reads = 0; reads < 2; reads++) {
                edge(18, (reads == 1 ? "who READ" : "who do not READ") + " at KIND " + kind);
                make(1);
                x.slip(0, kind);
                row(0, 0);
                childIn(0, reads == 1, kind == 0 ? 7 : 9, kind == 1 ? 7 : 9, kind == 2 ? 7 : 9, kind == 3 ? 7 : 9);
                boolean h = has[kind][reads];
                fraction(h ? 7 : 0, h ? 10 : 1, x.riddles(0, 0));
            }
        }
        edge(18, "those of the LOT alone");
        smallHunts();
        childIn(1, true, 0, 9, 0, 0);
        x.child(true, 9, 9, 9, 9);
        fraction(1, 2, x.riddles(0, 0));
        fraction(19, 20, x.riddles(1, 0));
        edge(18, "those who are not BARRED there (where it is read)");
        line(2);
        childIn(0, true, 0, 5, 0, 0);
        slipsAt(1, 1);
        row(0, 0, 1);
        x.bar(0, 1);
        fraction(1, 2, x.riddles(0, 0));
        fraction(0, 1, x.riddles(0, 1));
        x.bar(0, 0);
        fraction(0, 1, x.riddles(0, 0));
    }

    private void riddlesFromLeastToMost() {
        edge(18, "nobody");
        make(1);
        slipsAt(0);
        row(0, 0);
        fraction(0, 1, x.riddles(0, 0));
        childIn(0, true, 9, 0, 9, 9);
        fraction(0, 1, x.riddles(0, 0));
        edge(18, "QUICK 1 of 10");
        make(1);
        slipsAt(0);
        row(0, 0);
        childIn(0, true, 0, 1, 0, 0);
        fraction(1, 10, x.riddles(0, 0));
        edge(18, "six of QUICK 9, and of 1");
        make(1);
        slipsAt(0);
        x.slip(0, 0);
        row(0, 0, 1);
        for (int c = 0; c < 6; c++) {
            childIn(0, true, 1, 9, 0, 0);
        }
        fraction(999999, 1000000, x.riddles(0, 0));
        fraction(468559, 1000000, x.riddles(0, 1));
    }

    private void lengths() {
        edge(19, "each riddle 1 minute, if its chance is above 0, else HELP");
        make(1);
        slipsAt(0);
        x.slip(0, 0);
        row(0, 0, 1);
        asks(8, () -> x.length(0, 0));
        childIn(0, true, 0, 1, 0, 0);
        asks(5, () -> x.length(0, 0));
        x.child(true, 9, 9, 9, 9);
        asks(5, () -> x.length(0, 0));
        x.join(1, 0);
        asks(2, () -> x.length(0, 0));
        edge(19, "the greatest (each HELP)");
        smallHunts();
        asks(8, () -> x.length(0, 1));
        x.put(0, 6);
        asks(12, () -> x.length(0, 1));
        asks(2, () -> x.length(0, 0));
        edge(19, "HELP 1");
        smallHunts();
        x.put(0, 1);
        asks(2, () -> x.length(0, 0));
        asks(2, () -> x.length(0, 1));
        fraction(2, 1, x.length(0, 2));
        edge(19, "the mean, nobody there");
        smallHunts();
        x.join(0, -1);
        asks(8, () -> x.length(0, 0));
        fraction(8, 1, x.length(0, 2));
        edge(19, "the mean, HELP 2");
        smallHunts();
        x.put(0, 2);
        fraction(3, 1, x.length(0, 2));
        row(0, 0);
        fraction(3, 2, x.length(0, 2));
        edge(19, "a ROW of 6, far between, HELP 6");
        make(10);
        for (int p = 1; p < 10; p++) {
            x.way(p - 1, p, 9);
        }
        slipsAt(5, 9, 0, 9, 0, 9);
        row(0, 0, 1, 2, 3, 4, 5);
        x.put(0, 6);
        asks(6 * 81 + 36, () -> x.length(0, 0));
        asks(6 * 81 + 36, () -> x.length(0, 1));
        fraction(6 * 81 + 36, 1, x.length(0, 2));
        fraction(1, 1, x.ends(0, 522, 522));
    }

    private void lengthsOfEachHelp() {
        for (int help = 1; help <= 6; help++) {
            edge(19, "the mean, 1 .. 6 riddles of QUICK 9, HELP " + help);
            make(1);
            childIn(0, true, 0, 9, 0, 0);
            slipsAt(0, 0, 0, 0, 0, 0);
            x.put(0, help);
            BigInteger below = BigInteger.TEN.pow(help - 1);
            for (int size = 1; size <= 6; size++) {
                x.row(0, size - 1);
                due(1, x.length(0, 2));
                // 1, 1.1, 1.11, ..
                BigInteger ones = BigInteger.TEN.pow(help).subtract(BigInteger.ONE).divide(BigInteger.valueOf(9));
                fraction(ones.multiply(BigInteger.valueOf(size)), below);
            }
        }
    }

    private void lengthsOfLegsThatDiffer() {
        edge(19, "each WALK by itself");
        make(10);
        for (int p = 1; p < 10; p++) {
            x.way(p - 1, p, p);
        }
        slipsAt(0, 4, 5);
        row(0, 0, 2, 1);
        x.put(0, 1);
        x.put(3, 9);
        // From 9 to 5, to 4, to 0.
        due(3 + 30 + 5 + 10, x.length(0, 0));
        x.put(4, 9);
        due(3 + 30 + 5 + 35, x.length(0, 0));
    }

    private void lengthsOfWhat() {
        edge(19, "BAD: another length");
        smallHunts();
        bad(() -> x.length(0, 3));
        bad(() -> x.length(0, -1));
        for (int what : FAR_OFF) {
            bad(() -> x.length(1, what));
        }
        edge(19, "BAD: a LOT that is none");
        smallHunts();
        for (int lot : NO_LOTS) {
            bad(() -> x.length(lot, 0));
            bad(() -> x.length(lot, 2));
        }
        edge(19, "BAD ahead of NO");
        smallHunts();
        x.put(4, 5);
        bad(() -> x.length(0, 3));
        bad(() -> x.length(2, 0));
        no(() -> x.length(0, 0));
    }

    /** From 0 to 1, 2, 3 it is 2, 2, 3 minutes; to 4 there is no WALK; HELP 1, one SLIP. */
    private void star() {
        make(5);
        x.way(0, 1, 2);
        x.way(0, 2, 2);
        x.way(0, 3, 3);
        slipsAt(0);
        row(0, 0);
        x.put(0, 1);
        x.put(4, 3);
    }

    private void mistakes() {
        edge(19, "to the nearest by WALK, till it is that one");
        star();
        due(1 + 3, x.length(0, 0));
        x.means(0, 1);
        due(1 + 2 + 5, x.length(0, 0));
        edge(19, "of like ones the least");
        star();
        x.means(0, 1);
        x.means(0, 2);
        due(1 + 2 + 4 + 5, x.length(0, 0));
        x.put(4, 1);
        due(1 + 2, x.length(0, 0));
        x.put(4, 2);
        due(1 + 2 + 4, x.length(0, 0));
        edge(19, "farther ones are not tried");
        star();
        x.means(0, 3);
        x.put(4, 2);
        due(1 + 2, x.length(0, 0));
        edge(19, "where they are already: that one");
        star();
        x.means(0, 1);
        x.means(0, 2);
        x.put(4, 0);
        due(1, x.length(0, 0));
        edge(19, "where they are already: a MISTAKEN one");
        star();
        x.means(0, 0);
        due(1 + 3, x.length(0, 0));
        edge(19, "MISTAKEN, and that one too");
        star();
        x.means(0, 3);
        due(1 + 3, x.length(0, 0));
        edge(19, "MISTAKEN ones to which there is no WALK are not tried");
        star();
        x.means(0, 4);
        due(1 + 3, x.length(0, 0));
        edge(19, "all MISTAKEN");
        star();
        for (int p = 0; p < 5; p++) {
            x.means(0, p);
        }
        due(1 + 2 + 4 + 5, x.length(0, 0));
        x.put(4, 4);
        no(() -> x.length(0, 0));
    }

    private void mistakesFromWhereTheyAre() {
        edge(19, "always to the nearest from where they are then");
        make(4);
        x.way(0, 1, 2);
        x.way(0, 2, 3);
        x.way(1, 3, 4);
        slipsAt(0);
        row(0, 0);
        x.put(0, 1);
        x.put(4, 2);
        x.means(0, 1);
        x.means(0, 3);
        due(1 + 2 + 4 + 9, x.length(0, 0));
        edge(19, "a PLACE that they pass is not tried by that");
        line(4);
        slipsAt(0);
        row(0, 0);
        x.put(0, 1);
        x.put(3, 1);
        x.put(4, 3);
        x.means(0, 0);
        // 0 at a minute; then past 1 and 2 to 3.
        due(1 + 1 + 3, x.length(0, 0));
        edge(19, "ten PLACES, the last one is it");
        line(10);
        slipsAt(0);
        row(0, 0);
        x.put(0, 1);
        x.put(3, 5);
        x.put(4, 9);
        for (int p = 0; p < 10; p++) {
            x.means(0, p);
        }
        // 4, alike near as 6, down to 0; 6 up to 9.
        due(1 + 5 + 6 + 3, x.length(0, 0));
    }

    private void mistakesOfWhichSlip() {
        edge(19, "what a SLIP may mean, too, is tried behind it");
        line(3);
        slipsAt(0, 0);
        row(0, 0, 1);
        x.put(0, 1);
        x.put(3, 1);
        x.put(4, 1);
        // 1 to 0, and back.
        due(2 + 2, x.length(0, 0));
        x.means(1, 2);
        due(2 + 2, x.length(0, 0));
        x.means(0, 2);
        due(2 + 2, x.length(0, 0));
        x.put(4, 2);
        x.means(1, 1);
        // From 0 to 1, which is none, then 2.
        due(2 + 1 + 2, x.length(0, 0));
        row(0, 1, 0);
        x.put(3, 2);
        x.put(4, 2);
        // By 1: 2 at 0 minutes, 1, 0; then by 0: 2, that one.
        due(2 + 2 + 2, x.length(0, 0));
    }

    private void ends() {
        edge(20, "from a to b, both ends too");
        smallHunts();
        row(0, 0);
        x.place();
        x.way(0, 1, 3);
        x.put(4, 1);
        x.put(0, 2);
        fraction(1, 2, x.ends(0, 4, 4));
        fraction(1, 2, x.ends(0, 5, 5));
        fraction(1, 1, x.ends(0, 4, 5));
        fraction(0, 1, x.ends(0, 0, 3));
        fraction(1, 2, x.ends(0, 0, 4));
        fraction(1, 2, x.ends(0, 5, 999));
        fraction(0, 1, x.ends(0, 6, 999));
        fraction(1, 1, x.ends(0, 0, 999));
        fraction(0, 1, x.ends(0, 0, 0));
        fraction(0, 1, x.ends(0, 999, 999));
        due(0, x.status(0) + x.status(1) + x.status(2));
        edge(20, "with minute HELP it ends in any case");
        smallHunts();
        row(0, 0);
        x.put(0, 3);
        fraction(1, 4, x.ends(0, 3, 3));
        fraction(1, 4, x.ends(0, 2, 2));
        x.bar(0, 0);
        fraction(1, 1, x.ends(0, 3, 3));
        fraction(0, 1, x.ends(0, 0, 2));
        edge(20, "HELP 1");
        smallHunts();
        x.put(0, 1);
        fraction(1, 1, x.ends(0, 2, 2));
        fraction(0, 1, x.ends(0, 0, 1));
        asks(1, () -> x.ends(0, 2, 3));
    }

    private void endsOfWhat() {
        edge(20, "BAD, if not 0 <= a <= b <= 999");
        smallHunts();
        bad(() -> x.ends(0, -1, 5));
        bad(() -> x.ends(0, -1, -1));
        bad(() -> x.ends(0, 5, 4));
        bad(() -> x.ends(0, 999, 0));
        bad(() -> x.ends(0, 0, 1000));
        bad(() -> x.ends(0, 1000, 1000));
        bad(() -> x.ends(0, 0, -1));
        for (int v : FAR_OFF) {
            bad(() -> x.ends(0, v, 999));
            bad(() -> x.ends(0, 0, v));
            bad(() -> x.ends(0, v, v));
        }
        edge(20, "BAD: a LOT that is none");
        smallHunts();
        for (int lot : NO_LOTS) {
            bad(() -> x.ends(lot, 0, 999));
        }
        edge(20, "BAD ahead of NO");
        smallHunts();
        x.unrow(0);
        bad(() -> x.ends(0, 1, 0));
        no(() -> x.ends(0, 0, 0));
    }

    private void guessed() {
        edge(21, "BAD: a CHILD that is not there");
        smallHunts();
        for (int c : new int[] {-1, 2, 5, 6, Integer.MIN_VALUE, Integer.MAX_VALUE, 1 << 30}) {
            bad(() -> x.guessed(c));
        }
        edge(21, "NO: in no LOT, too");
        smallHunts();
        x.join(0, -1);
        no(() -> x.guessed(0));
        due(1, x.guessed(1));
        x.join(0, 1);
        due(1, x.guessed(0));
        edge(21, "NO: its own LOT's HUNT");
        smallHunts();
        x.unrow(1);
        no(() -> x.guessed(1));
        due(1, x.guessed(0));
        x.join(0, 1);
        x.join(1, 0);
        no(() -> x.guessed(0));
        due(1, x.guessed(1));
        edge(21, "none at all");
        smallHunts();
        childIn(0, false, 0, 0, 0, 0);
        fraction(0, 1, x.guessed(2));
        x.bar(0, 0);
        fraction(0, 1, x.guessed(0));
        asks(1, () -> x.guessed(0));
        edge(21, "HELP 1: one minute");
        smallHunts();
        row(0, 0);
        x.put(0, 1);
        fraction(1, 2, x.guessed(0));
        edge(21, "in minute HELP, too");
        smallHunts();
        row(0, 0);
        x.put(0, 2);
        fraction(3, 4, x.guessed(0));
        x.put(0, 6);
        fraction(63, 64, x.guessed(0));
    }

    private void guessedByTheLeast() {
        edge(21, "of several the least is who GUESSED it");
        make(1);
        slipsAt(0);
        row(0, 0);
        x.put(0, 1);
        childIn(0, true, 0, 1, 0, 0);
        childIn(0, false, 0, 9, 0, 0);
        childIn(0, true, 0, 5, 0, 0);
        fraction(1, 10, x.guessed(0));
        fraction(81, 100, x.guessed(1));
        fraction(9, 200, x.guessed(2));
    }

    private void fair() {
        edge(22, "0 without CHILDREN");
        smallHunts();
        x.join(0, -1);
        fraction(0, 1, x.fair(0));
        x.join(0, 1);
        fraction(0, 1, x.fair(0));
        edge(22, "0 with one CHILD");
        smallHunts();
        fraction(0, 1, x.fair(0));
        edge(22, "0 if all have the same");
        smallHunts();
        x.bar(0, 0);
        childIn(0, true, 9, 0, 9, 9);
        fraction(0, 1, x.fair(0));
        edge(22, "the most less the least");
        smallHunts();
        row(0, 0);
        x.put(0, 1);
        childIn(0, true, 0, 2, 0, 0);
        // 1/2 and 1/2 * 1/5, then 1/2 * 4/5 * 9/10 too.
        fraction(2, 5, x.fair(0));
        childIn(0, false, 0, 9, 0, 0);
        fraction(2, 5, x.fair(0));
        childIn(0, true, 0, 0, 0, 0);
        fraction(1, 2, x.fair(0));
        edge(22, "the least is the first, the most the last");
        smallHunts();
        row(0, 0);
        x.put(0, 1);
        x.join(0, -1);
        childIn(0, true, 0, 1, 0, 0);
        childIn(0, true, 0, 9, 0, 0);
        fraction(71, 100, x.fair(0));
        asks(1, () -> x.fair(0));
        for (int help = 1; help <= 6; help++) {
            edge(22, "the most less the least, HELP " + help);
            smallHunts();
            row(0, 0);
            x.put(0, help);
            childIn(0, true, 0, 3, 0, 0);
            // 50 and 15 of 100 in each minute that comes to be, and 35 of 100 are for none.
            BigInteger minutes = BigInteger.ZERO;
            for (int m = 0; m < help; m++) {
                minutes = minutes.add(BigInteger.valueOf(35).pow(m).multiply(BigInteger.valueOf(100).pow(help - 1 - m)));
            }
            due(1, x.fair(0));
            fraction(minutes.multiply(BigInteger.valueOf(35)), BigInteger.valueOf(100).pow(help));
        }
        edge(22, "BAD: a LOT that is none");
        smallHunts();
        for (int lot : NO_LOTS) {
            bad(() -> x.fair(lot));
        }
        edge(22, "NO ahead of 0 without CHILDREN");
        smallHunts();
        x.join(0, -1);
        x.put(4, 1);
        no(() -> x.fair(0));
    }
}
