/** Promises 23 to 27, what is chosen of many: each sentence that names an edge has a test of its own here. */
final class ChoiceEdgesTest extends Promises {
    private static final int[] NO_LOTS = {-1, 2, Integer.MIN_VALUE, Integer.MAX_VALUE, 1 << 30};

    public static void main(String[] args) {
        ChoiceEdgesTest t = new ChoiceEdgesTest();
        t.orderNotSoMany();
        t.orderOfWhat();
        t.orderOfLikeOnes();
        t.orderAroundTheGoal();
        t.orderThatCanBeWalked();
        t.orderByKindsAsTheyAre();
        t.kindsNotSoMany();
        t.kindsOfWhat();
        t.kindsWithoutChildren();
        t.kindsOfLikeOnes();
        t.kindsAroundTheGoal();
        t.kindsWithWalks();
        t.kindsByPlace();
        t.kindsOfThoseWhoHaveLeast();
        t.meetings();
        t.meetingsInOneMinute();
        t.meetingsAtTheSoonest();
        t.meetingsThatCanNotBe();
        t.apartNotSoMany();
        t.apartOfLikeOnes();
        t.apartThatCanBeWalked();
        t.soonerOfLikeOnes();
        t.soonerAboveTheGoal();
        t.soonerOfWhat();
        t.check.end("ChoiceEdgesTest");
    }

    /** One PLACE and eight SLIPS there; HELP 1. */
    private void onePlace() {
        make(1);
        slipsAt(0, 0, 0, 0, 0, 0, 0, 0);
        x.put(0, 1);
        x.report(0, 1);
    }

    private void orderNotSoMany() {
        for (int size = 1; size <= 6; size++) {
            edge(23, "-5: not so many: a ROW of " + size);
            onePlace();
            for (int i = 0; i < size; i++) {
                x.row(1, 7 - i);
            }
            for (int place = 0; place < 6; place++) {
                int i = place;
                asks(i < size ? 8 - size + i : -5, () -> x.order(1, i));
                // The mean LENGTH is THE FRACTION then, too.
                x.hard(0, 2);
                x.order(1, i);
                fraction(size, 1);
            }
        }
    }

    private void orderOfWhat() {
        edge(23, "BAD: place 0 .. 5");
        onePlace();
        row(0, 0, 1, 2, 3, 4, 5);
        bad(() -> x.order(0, 6));
        bad(() -> x.order(0, -1));
        for (int i : FAR_OFF) {
            bad(() -> x.order(0, i));
        }
        due(5, x.order(0, 5));
        edge(23, "BAD: a LOT that is none");
        onePlace();
        row(0, 0);
        row(1, 1);
        for (int lot : NO_LOTS) {
            bad(() -> x.order(lot, 0));
        }
        edge(23, "BAD ahead of NO");
        onePlace();
        bad(() -> x.order(0, 6));
        no(() -> x.order(0, 0));
    }

    private void orderOfLikeOnes() {
        edge(23, "of like ones the first by SLIPS");
        onePlace();
        row(0, 5, 2, 7);
        due(2, x.order(0, 0));
        due(5, x.order(0, 1));
        due(7, x.order(0, 2));
        edge(23, "of all orders of six the last one");
        line(7);
        x.place();
        // Where 5 lies none can walk to, so it is first; then up the line without a turn.
        slipsAt(5, 4, 3, 2, 1, 7);
        row(0, 0, 1, 2, 3, 4, 5);
        x.put(0, 1);
        x.put(4, 6);
        x.put(1, 0);
        for (int i = 0; i < 6; i++) {
            due(5 - i, x.order(0, i));
        }
        fraction(12, 1);
    }

    /** HELP 1; from the middle one of three the slips lie to both sides; walks of 2 or 4 minutes. */
    private void threeInLine(int first, int second, int third) {
        line(3);
        slipsAt(first, second, third);
        row(0, 2, 0, 1);
        x.put(0, 1);
    }

    private void threeAre(int a, int b, int c, int length) {
        due(a, x.order(0, 0));
        due(b, x.order(0, 1));
        due(c, x.order(0, 2));
        fraction(length, 1);
    }

    private void orderAroundTheGoal() {
        edge(23, "nearest to GOAL, from above or from below");
        threeInLine(2, 1, 0);
        x.put(1, 5);
        threeAre(0, 1, 2, 5);
        x.put(1, 6);
        threeAre(0, 1, 2, 5);
        x.put(1, 7);
        threeAre(1, 0, 2, 7);
        x.put(1, 0);
        threeAre(0, 1, 2, 5);
        x.put(1, 200);
        threeAre(1, 0, 2, 7);
        edge(23, "nearest to GOAL, the greater one is the first by SLIPS");
        threeInLine(0, 1, 2);
        x.put(1, 6);
        threeAre(0, 1, 2, 7);
        x.put(1, 5);
        threeAre(2, 0, 1, 5);
    }

    private void orderThatCanBeWalked() {
        edge(23, "of those that can be walked");
        line(2);
        x.place();
        slipsAt(2, 0, 1);
        row(0, 1, 0, 2);
        x.put(0, 1);
        no(() -> x.length(0, 2));
        threeAre(0, 1, 2, 5);
        row(0, 0);
        due(0, x.order(0, 0));
        edge(23, "NO: no order can be walked, too");
        line(2);
        x.place();
        slipsAt(2, 0, 2);
        row(0, 1, 0, 2);
        no(() -> x.order(0, 0));
        no(() -> x.order(0, 3));
        row(0, 0, 2);
        no(() -> x.order(0, 1));
        x.way(1, 2, 1);
        due(0, x.order(0, 0));
    }

    private void orderByKindsAsTheyAre() {
        edge(23, "by KINDS as they are");
        line(2);
        childIn(0, true, 0, 5, 0, 0);
        x.bar(0, 1);
        x.slip(1, 1);
        x.slip(1, 0);
        row(0, 1, 0);
        x.put(0, 2);
        x.put(1, 0);
        // At START alone there is one who riddles: 0 there takes 3/2 minutes, 1 there 2.
        due(0, x.order(0, 0));
        fraction(11, 2);
        x.put(1, 200);
        due(1, x.order(0, 0));
        fraction(6, 1);
        asks(0, () -> x.order(0, 1));
    }

    private void kindsNotSoMany() {
        for (int size = 1; size <= 6; size++) {
            edge(24, "-5: not so many: a ROW of " + size);
            onePlace();
            childIn(1, true, 0, 5, 0, 0);
            for (int i = 0; i < size; i++) {
                x.row(1, 7 - i);
            }
            for (int place = 0; place < 6; place++) {
                int i = place;
                asks(i < size ? 1 : -5, () -> x.kinds(1, i));
                // The least GUESSED is THE FRACTION then, too.
                x.hard(0, 2);
                x.kinds(1, i);
                fraction(size % 2 == 0 ? size / 2 : size, size % 2 == 0 ? 1 : 2);
            }
        }
    }

    private void kindsOfWhat() {
        edge(24, "BAD: place 0 .. 5");
        onePlace();
        row(0, 0, 1, 2, 3, 4, 5);
        bad(() -> x.kinds(0, 6));
        bad(() -> x.kinds(0, -1));
        for (int i : FAR_OFF) {
            bad(() -> x.kinds(0, i));
        }
        due(0, x.kinds(0, 5));
        edge(24, "BAD: a LOT that is none");
        onePlace();
        row(0, 0);
        row(1, 1);
        for (int lot : NO_LOTS) {
            bad(() -> x.kinds(lot, 0));
        }
        edge(24, "BAD ahead of NO");
        onePlace();
        bad(() -> x.kinds(0, 6));
        no(() -> x.kinds(0, 0));
    }

    private void kindsWithoutChildren() {
        edge(24, "0 without CHILDREN");
        onePlace();
        row(0, 1, 0);
        x.child(true, 9, 9, 9, 9);
        childIn(1, true, 9, 9, 9, 9);
        x.hard(0, 2);
        due(0, x.kinds(0, 0));
        fraction(0, 1);
        due(0, x.kinds(0, 1));
        fraction(0, 1);
        edge(24, "0 for one who has none");
        onePlace();
        row(0, 0);
        childIn(0, true, 0, 0, 0, 9);
        due(0, x.kinds(0, 0));
        fraction(0, 1);
        edge(24, "the most of the least of one CHILD");
        onePlace();
        row(0, 0);
        childIn(0, false, 9, 2, 9, 3);
        due(3, x.kinds(0, 0));
        fraction(3, 10);
        edge(24, "the last KINDS of six");
        onePlace();
        row(0, 7, 6, 5, 4, 3, 2);
        childIn(0, false, 9, 2, 9, 3);
        for (int i = 0; i < 6; i++) {
            due(3, x.kinds(0, i));
        }
        fraction(9, 5);
    }

    private void kindsOfLikeOnes() {
        edge(24, "the first by KINDS");
        onePlace();
        row(0, 1, 0);
        childIn(0, true, 4, 5, 5, 0);
        due(1, x.kinds(0, 0));
        due(1, x.kinds(0, 1));
        fraction(1, 1);
        edge(24, "by KINDS in the ROW's order, not the SLIPS'");
        onePlace();
        row(0, 1, 0);
        childIn(0, true, 5, 0, 0, 0);
        childIn(0, true, 0, 5, 0, 0);
        due(0, x.kinds(0, 0));
        due(1, x.kinds(0, 1));
        fraction(1, 2);
        edge(24, "a KIND that is there already is none better");
        onePlace();
        x.unrow(0);
        x.row(0, 3);
        childIn(0, true, 5, 5, 5, 0);
        due(0, x.kinds(0, 0));
    }

    private void kindsAroundTheGoal() {
        edge(24, "of like ones with the mean LENGTH nearest to GOAL");
        onePlace();
        row(0, 0);
        x.put(0, 2);
        childIn(0, true, 0, 0, 0, 0);
        childIn(0, true, 1, 9, 5, 9);
        // The least is always 0; the means are 19/10, 11/10, 3/2 and 2.
        int[][] due = {{0, 1}, {1, 1}, {2, 3}, {200, 3}};
        for (int[] d : due) {
            x.put(1, d[0]);
            due(d[1], x.kinds(0, 0));
            fraction(0, 1);
        }
        for (int turned = 7; turned <= 9; turned += 2) {
            edge(24, "alike near to GOAL from above and below: the first by KINDS");
            onePlace();
            row(0, 0, 1);
            x.put(0, 2);
            x.put(1, 3);
            childIn(0, true, 0, 0, 0, 0);
            childIn(0, true, 2, 16 - turned, turned, 0);
            // 18/10 and 13/10 or 11/10: 31/10, 29/10.
            due(0, x.kinds(0, 0));
            due(1, x.kinds(0, 1));
        }
    }

    private void kindsWithWalks() {
        edge(24, "the mean LENGTH, WALKS too");
        make(2);
        x.way(0, 1, 3);
        slipsAt(0);
        row(0, 0);
        x.put(0, 2);
        x.put(4, 1);
        childIn(0, true, 0, 0, 0, 0);
        childIn(0, true, 1, 9, 5, 9);
        // 49/10, 41/10, 9/2 and 5.
        int[][] due = {{0, 1}, {4, 1}, {5, 3}, {200, 3}};
        for (int[] d : due) {
            x.put(1, d[0]);
            asks(d[1], () -> x.kinds(0, 0));
        }
    }

    /** One who is QUICK at DRAWN ones at START alone, one who is at RHYMED ones where the others lie. */
    private void kindsByPlace() {
        edge(24, "a lesser KIND behind a greater one");
        line(2);
        slipsAt(0, 1, 1, 1, 1, 1);
        x.put(0, 1);
        childIn(0, true, 0, 5, 0, 0);
        x.bar(0, 1);
        childIn(0, true, 5, 0, 0, 0);
        x.bar(1, 0);
        row(0, 0, 1);
        due(1, x.kinds(0, 0));
        due(0, x.kinds(0, 1));
        fraction(1, 2);
        row(0, 0, 1, 2, 3, 4, 5);
        due(1, x.kinds(0, 0));
        for (int place = 1; place < 6; place++) {
            int i = place;
            asks(0, () -> x.kinds(0, i));
        }
        x.kinds(0, 0);
        fraction(1, 2);
        edge(24, "six CHILDREN, six SLIPS");
        make(1);
        slipsAt(0, 0, 0, 0, 0, 0);
        row(0, 0, 1, 2, 3, 4, 5);
        x.put(0, 6);
        for (int c = 0; c < 6; c++) {
            childIn(0, true, 0, 0, 1, 0);
        }
        for (int place = 0; place < 6; place++) {
            due(2, x.kinds(0, place));
        }
    }

    private void kindsOfThoseWhoHaveLeast() {
        edge(24, "the least ahead of what is nearest to GOAL");
        onePlace();
        row(0, 0);
        x.put(0, 2);
        x.put(1, 2);
        childIn(0, true, 2, 3, 1, 0);
        due(1, x.kinds(0, 0));
        fraction(51, 100);
        edge(24, "CHILDREN of the LOT alone");
        onePlace();
        row(0, 0);
        childIn(1, true, 9, 0, 0, 0);
        childIn(0, true, 2, 3, 1, 0);
        x.child(true, 9, 0, 0, 0);
        due(1, x.kinds(0, 0));
        fraction(3, 10);
        x.join(0, 0);
        due(0, x.kinds(0, 0));
        // Of what the first leaves.
        fraction(1, 50);
    }

    private void meetings() {
        edge(25, "each pair");
        onePlace();
        row(0, 0, 1, 2, 3, 4, 5);
        row(1, 7, 6, 5, 4, 3, 2);
        // Both in i .. i + 1: each with the one ahead and the one behind.
        asks(16, () -> x.meet());
        x.put(0, 6);
        due(16, x.meet());
        childIn(0, true, 0, 1, 0, 0);
        childIn(1, true, 0, 1, 0, 0);
        due(36, x.meet());
        edge(25, "the first ones are both read at START");
        line(3);
        slipsAt(1, 2);
        row(0, 0);
        row(1, 1);
        due(1, x.meet());
        x.put(3, 2);
        due(1, x.meet());
        edge(25, "a SLIP of both ROWS is a pair, too");
        onePlace();
        row(0, 4);
        row(1, 4);
        due(1, x.meet());
    }

    /** From 0 to 1, from 0 to 2, from 2 to 1; one LOT goes 0, 1, the other 0, 2, 1, without a CHILD, with HELP 4. */
    private void roundAbout(boolean turned, int direct, int out, int back) {
        make(3);
        x.way(0, 1, direct);
        x.way(0, 2, out);
        x.way(2, 1, back);
        slipsAt(0, 1, 0, 2, 1);
        row(turned ? 1 : 0, 0, 1);
        row(turned ? 0 : 1, 2, 3, 4);
    }

    private void meetingsInOneMinute() {
        for (int turned = 0; turned < 2; turned++) {
            edge(25, "TIMES: both ends are theirs");
            // 8 .. 12 and 12 .. 16.
            roundAbout(turned == 1, 4, 2, 2);
            due(2, x.meet());
            edge(25, "TIMES: a minute behind the last one");
            // 8 .. 12 and 13 .. 17.
            roundAbout(turned == 1, 4, 2, 3);
            due(1, x.meet());
        }
    }

    private void meetingsAtTheSoonest() {
        for (int turned = 0; turned < 2; turned++) {
            int lot = turned == 1 ? 0 : 1;
            edge(25, "TIMES: at the soonest, riddles ahead as for the least LENGTH");
            // 8 .. 12, and from 2 + 9 on, or 1 + 4 + 9 if the second riddle is none of theirs.
            roundAbout(turned == 1, 4, 3, 7);
            due(1, x.meet());
            childIn(lot, true, 0, 1, 0, 0);
            due(2, x.meet());
            x.bar(0, 2);
            due(1, x.meet());
            edge(25, "TIMES: its own riddle is not ahead of it");
            roundAbout(turned == 1, 4, 3, 7);
            childIn(lot, true, 0, 1, 0, 0);
            x.bar(0, 1);
            due(2, x.meet());
            edge(25, "TIMES: at the latest, riddles as for the greatest");
            // The first LOT is there up to 4 + 4 + 4, however QUICK.
            roundAbout(turned == 1, 4, 2, 2);
            childIn(1 - lot, true, 0, 9, 0, 0);
            due(2, x.meet());
            x.put(0, 3);
            due(2, x.meet());
        }
    }

    private void meetingsThatCanNotBe() {
        for (int lot = 0; lot < 2; lot++) {
            edge(25, "NO: either can not be: an empty ROW");
            onePlace();
            row(0, 0, 1);
            row(1, 2, 3);
            x.unrow(lot);
            no(() -> x.meet());
            edge(25, "NO: either can not be: no WALK to the CAKE");
            onePlace();
            x.place();
            row(0, 0, 1);
            row(1, 2, 3);
            due(4, x.meet());
            x.put(4, 1);
            no(() -> x.meet());
            edge(25, "NO: either can not be: no WALK to a SLIP");
            make(2);
            slipsAt(0, 0, 0, 1);
            row(lot, 0, 3);
            row(1 - lot, 1, 2);
            no(() -> x.meet());
            x.way(0, 1, 1);
            due(2, x.meet());
        }
        edge(25, "NO: START or CAKE is not there");
        onePlace();
        row(0, 0);
        row(1, 1);
        x.put(3, 1);
        no(() -> x.meet());
        x.put(3, 0);
        x.put(4, 1);
        no(() -> x.meet());
        x.put(4, 0);
        due(1, x.meet());
    }

    private void apartNotSoMany() {
        for (int size = 1; size <= 6; size++) {
            edge(26, "-5: not so many: a ROW of " + size);
            onePlace();
            x.row(0, 0);
            for (int i = 0; i < size; i++) {
                x.row(1, 7 - i);
            }
            for (int place = 0; place < 6; place++) {
                int i = place;
                asks(i < size ? 8 - size + i : -5, () -> x.apart(i));
            }
            asks(Math.min(size, 2), () -> x.apart(-1));
            // THE FRACTION stays.
            x.hard(0, 2);
            x.apart(0);
            fraction(1, 1);
        }
        edge(26, "BAD: -10: another place");
        onePlace();
        row(0, 0);
        row(1, 0, 1, 2, 3, 4, 5);
        badTold(-10, () -> x.apart(6));
        badTold(-10, () -> x.apart(-2));
        for (int i : FAR_OFF) {
            badTold(-10, () -> x.apart(i));
        }
        due(5, x.apart(5));
        edge(26, "BAD ahead of NO");
        onePlace();
        badTold(-10, () -> x.apart(6));
        noTold(-20, () -> x.apart(5));
        noTold(-20, () -> x.apart(-1));
    }

    private void apartOfLikeOnes() {
        edge(26, "with the fewest MEET");
        make(2);
        x.way(0, 1, 5);
        slipsAt(0, 1, 0);
        x.put(0, 1);
        row(0, 0);
        row(1, 1, 2);
        // By 1, 2 both are read at 0: in 0 .. 1 and in 1 .. 2.
        due(2, x.meet());
        due(1, x.apart(-1));
        due(2, x.apart(0));
        due(1, x.apart(1));
        row(1, 2, 1);
        due(1, x.meet());
        due(1, x.apart(-1));
        due(2, x.apart(0));
        edge(26, "of like ones the first by SLIPS");
        onePlace();
        row(0, 0);
        row(1, 5, 3, 4);
        due(2, x.apart(-1));
        due(3, x.apart(0));
        due(4, x.apart(1));
        due(5, x.apart(2));
        edge(26, "orders of the ROW of LOT 1 alone");
        onePlace();
        row(0, 7, 6);
        row(1, 5);
        asks(5, () -> x.apart(0));
        asks(2, () -> x.apart(-1));
    }

    private void apartThatCanBeWalked() {
        edge(26, "NO: -20: either, as its ROW is now, can not be");
        line(2);
        x.place();
        slipsAt(0, 0, 2);
        x.put(0, 1);
        row(0, 0);
        row(1, 1, 2);
        noTold(-20, () -> x.apart(0));
        noTold(-20, () -> x.apart(-1));
        // Another order of it is no matter; here is one.
        due(2, x.order(1, 0));
        edge(26, "of those that can be walked");
        line(2);
        x.place();
        slipsAt(0, 0, 2);
        x.put(0, 1);
        row(0, 0);
        row(1, 2, 1);
        due(2, x.apart(0));
        due(1, x.apart(1));
        due(2, x.apart(-1));
        edge(26, "NO: -20: LOT 0");
        line(2);
        x.place();
        slipsAt(0, 0, 2);
        row(0, 0, 2);
        row(1, 1);
        noTold(-20, () -> x.apart(0));
        row(0, 2, 0);
        due(1, x.apart(0));
        x.unrow(0);
        noTold(-20, () -> x.apart(-1));
        row(0, 0);
        x.unrow(1);
        noTold(-20, () -> x.apart(-1));
    }

    private void soonerOfLikeOnes() {
        edge(27, "of like ones the first in the ROW");
        onePlace();
        row(0, 5, 3, 7);
        x.put(1, 3);
        due(5, x.sooner(0));
        fraction(0, 1);
        x.put(1, 2);
        due(5, x.sooner(0));
        fraction(1, 1);
        asks(5, () -> x.sooner(0));
        edge(27, "the last of six");
        make(1);
        childIn(0, true, 0, 5, 0, 0);
        slipsAt(0, 0, 0, 0, 0);
        x.slip(0, 0);
        row(0, 0, 1, 2, 3, 4, 5);
        x.put(0, 2);
        x.put(1, 6);
        // 5 alone takes HELP in any case; with HELP 1 there, all others must take 1 of 2 minutes.
        due(5, x.sooner(0));
        fraction(31, 32);
    }

    private void soonerAboveTheGoal() {
        edge(27, "a LENGTH above GOAL: GOAL is none");
        make(1);
        childIn(0, true, 0, 5, 0, 0);
        slipsAt(0, 0);
        x.put(0, 3);
        row(0, 0);
        int[][] one = {{0, 1, 1}, {1, 0, 1}, {200, 0, 1}};
        for (int[] due : one) {
            x.put(1, due[0]);
            due(0, x.sooner(0));
            fraction(due[1], due[2]);
        }
        row(0, 1, 0);
        int[][] two = {{0, 1, 1}, {1, 1, 1}, {2, 1, 2}, {3, 1, 4}, {4, 0, 1}, {5, 0, 1}, {200, 0, 1}};
        for (int[] due : two) {
            x.put(1, due[0]);
            due(1, x.sooner(0));
            fraction(due[1], due[2]);
        }
        edge(27, "WALKS too");
        make(2);
        x.way(0, 1, 5);
        childIn(0, true, 0, 5, 0, 0);
        slipsAt(0, 0);
        x.put(0, 3);
        x.put(4, 1);
        row(0, 0, 1);
        x.put(1, 8);
        due(0, x.sooner(0));
        fraction(1, 4);
        x.put(1, 4);
        due(0, x.sooner(0));
        fraction(1, 1);
        edge(27, "HELP 1 for it alone");
        make(1);
        childIn(0, true, 0, 5, 0, 0);
        slipsAt(0);
        x.slip(0, 0);
        x.put(0, 3);
        row(0, 0, 1);
        x.put(1, 3);
        due(1, x.sooner(0));
        fraction(1, 4);
        due(6, x.length(0, 1));
    }

    private void soonerOfWhat() {
        edge(27, "BAD: a LOT that is none");
        onePlace();
        row(0, 0);
        row(1, 0);
        for (int lot : NO_LOTS) {
            bad(() -> x.sooner(lot));
        }
        edge(27, "BAD ahead of NO");
        onePlace();
        bad(() -> x.sooner(2));
        no(() -> x.sooner(1));
    }
}
