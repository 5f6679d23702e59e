/** Promises 17 to 27: hunts. */
final class HuntPromisesTest extends Promises {
    public static void main(String[] args) {
        HuntPromisesTest t = new HuntPromisesTest();
        t.walks();
        t.riddles();
        t.lengths();
        t.detours();
        t.noHunts();
        t.ends();
        t.guessed();
        t.fair();
        t.orders();
        t.ordersOfRowsThatCanNotBeWalked();
        t.kinds();
        t.kindsOfLikeOnes();
        t.meetings();
        t.apart();
        t.sooner();
        t.check.end("HuntPromisesTest");
    }

    private void walks() {
        begin(17);
        make(4);
        x.way(0, 1, 3);
        x.way(1, 2, 2);
        x.way(0, 2, 9);
        due(5, x.walk(0, 2));
        due(5, x.walk(2, 0));
        due(0, x.walk(1, 1));
        due(0, x.walk(3, 3));
        due(NONE, x.walk(3, 0));
        due(NONE, x.walk(0, 3));
        x.way(0, 2, 4);
        due(4, x.walk(0, 2));
        x.way(0, 1, 0);
        due(6, x.walk(0, 1));
        due(BAD, x.walk(0, 4));
        due(BAD, x.walk(4, 4));
        due(BAD, x.walk(-1, 0));
        due(3, x.status(0));
        x = new SlipHunt();
        make(10);
        for (int i = 1; i < 10; i++) {
            x.way(i - 1, i, 9);
        }
        due(81, x.walk(0, 9));
    }

    private void riddles() {
        begin(18);
        line(2);
        childIn(0, true, 5, 3, 7, 9);
        childIn(0, false, 9, 4, 9, 6);
        childIn(1, true, 9, 9, 9, 9);
        for (int k = 0; k < 4; k++) {
            x.slip(0, k);
        }
        due(BAD, x.riddles(0, 0));
        row(0, 0, 1, 2, 3);
        fraction(1, 2, x.riddles(0, 0));
        fraction(29, 50, x.riddles(0, 1));
        fraction(7, 10, x.riddles(0, 2));
        fraction(3, 5, x.riddles(0, 3));
        x.bar(0, 0);
        fraction(0, 1, x.riddles(0, 0));
        fraction(2, 5, x.riddles(0, 1));
        // The first SLIP is read at START.
        x.put(3, 1);
        fraction(1, 2, x.riddles(0, 0));
        row(1, 0);
        fraction(9, 10, x.riddles(1, 0));
        due(BAD, x.riddles(0, 4));
        due(BAD, x.riddles(0, 6));
        due(BAD, x.riddles(0, -1));
        due(BAD, x.riddles(2, 0));
        due(BAD, x.riddles(-1, 0));
        x.put(3, 2);
        due(NO, x.riddles(0, 0));
        due(BAD, x.riddles(0, 4));
        fraction(9, 10);
    }

    private void lengths() {
        begin(19);
        line(3);
        childIn(0, true, 0, 5, 0, 0);
        x.slip(0, 1);
        x.slip(2, 0);
        row(0, 0, 1);
        x.put(0, 2);
        x.put(4, 1);
        // 2 and 1 minutes are walked; the second one nobody has.
        due(6, x.length(0, 0));
        due(7, x.length(0, 1));
        fraction(13, 2, x.length(0, 2));
        x.put(0, 1);
        due(5, x.length(0, 0));
        due(5, x.length(0, 1));
        fraction(5, 1, x.length(0, 2));
        x.put(0, 6);
        due(10, x.length(0, 0));
        due(15, x.length(0, 1));
        // 1 + 1/2 + 1/4 + .. + 1/32, and 9.
        fraction(351, 32, x.length(0, 2));
        due(BAD, x.length(0, 3));
        due(BAD, x.length(0, -1));
        due(BAD, x.length(2, 0));
        due(BAD, x.length(-1, 0));
    }

    private void detours() {
        begin(19);
        make(5);
        x.way(0, 1, 1);
        x.way(0, 2, 1);
        x.way(0, 3, 5);
        x.way(2, 3, 3);
        slipsAt(0);
        row(0, 0);
        x.put(0, 1);
        x.put(4, 3);
        due(1 + 4, x.length(0, 0));
        x.means(0, 2);
        due(1 + 4, x.length(0, 0));
        // Of 1 and 2, alike near, the least; then 2 by way of 0; then 3.
        x.means(0, 1);
        due(1 + 1 + 2 + 3, x.length(0, 0));
        x.means(0, 4);
        due(1 + 1 + 2 + 3, x.length(0, 0));
        x.means(0, 3);
        due(1 + 1 + 2 + 3, x.length(0, 0));
        // What is farther than the right one is not tried.
        x.put(4, 0);
        due(1, x.length(0, 0));
        x.put(4, 1);
        due(2, x.length(0, 0));
        x.put(4, 2);
        due(1 + 1 + 2, x.length(0, 0));
    }

    private void noHunts() {
        begin(19);
        line(2);
        slipsAt(0, 1);
        allNo(0);
        row(0, 0, 1);
        due(2 * 4 + 2, x.length(0, 1));
        x.put(3, 2);
        allNo(0);
        x.put(3, 0);
        x.put(4, 9);
        allNo(0);
        x.put(4, 1);
        due(2 * 4 + 1, x.length(0, 1));
        x.way(0, 1, 0);
        allNo(0);
        x.way(0, 1, 9);
        due(2 * 4 + 9, x.length(0, 1));
        x.place();
        x.put(4, 2);
        allNo(0);
        fraction(0, 1);
    }

    private void allNo(int lot) {
        x.join(x.count(1) == 0 ? x.child(true, 1, 1, 1, 1) : 0, lot);
        int before = x.status(1);
        due(NO, x.length(lot, 0));
        due(NO, x.length(lot, 2));
        due(NO, x.ends(lot, 0, 999));
        due(NO, x.guessed(0));
        due(NO, x.fair(lot));
        due(NO, x.kinds(lot, 0));
        due(NO, x.sooner(lot));
        due(NO, x.soon(lot));
        due(NO, x.meet());
        due(-20, x.apart(0));
        due(before + 10, x.status(1));
        x.join(0, NONE);
    }

    private void ends() {
        begin(20);
        make(1);
        childIn(0, true, 5, 5, 5, 5);
        slipsAt(0, 0);
        row(0, 0);
        x.put(0, 3);
        fraction(1, 2, x.ends(0, 1, 1));
        fraction(1, 2, x.ends(0, 2, 3));
        fraction(1, 4, x.ends(0, 3, 3));
        fraction(0, 1, x.ends(0, 0, 0));
        fraction(0, 1, x.ends(0, 4, 999));
        fraction(1, 1, x.ends(0, 0, 999));
        row(0, 0, 1);
        fraction(1, 4, x.ends(0, 2, 2));
        fraction(1, 4, x.ends(0, 3, 3));
        fraction(5, 16, x.ends(0, 4, 4));
        fraction(1, 8, x.ends(0, 5, 5));
        fraction(1, 16, x.ends(0, 6, 6));
        fraction(11, 16, x.ends(0, 3, 5));
        due(BAD, x.ends(0, -1, 5));
        due(BAD, x.ends(0, 5, 4));
        due(BAD, x.ends(0, 0, 1000));
        due(BAD, x.ends(2, 0, 9));
        due(BAD, x.ends(-1, 0, 9));
        fraction(11, 16);
        // With WALKS too.
        x.place();
        x.way(0, 1, 7);
        x.put(4, 1);
        fraction(1, 4, x.ends(0, 9, 9));
        fraction(0, 1, x.ends(0, 0, 8));
    }

    private void guessed() {
        begin(21);
        make(1);
        childIn(0, true, 0, 5, 0, 0);
        childIn(0, false, 0, 5, 0, 0);
        childIn(1, true, 0, 5, 0, 0);
        x.child(true, 9, 9, 9, 9);
        slipsAt(0, 0);
        row(0, 0);
        x.put(0, 1);
        fraction(1, 2, x.guessed(0));
        fraction(1, 4, x.guessed(1));
        x.put(0, 2);
        fraction(5, 8, x.guessed(0));
        fraction(5, 16, x.guessed(1));
        row(0, 0, 1);
        fraction(5, 4, x.guessed(0));
        due(NO, x.guessed(2));
        row(1, 1);
        fraction(3, 4, x.guessed(2));
        due(NO, x.guessed(3));
        due(BAD, x.guessed(4));
        due(BAD, x.guessed(-1));
        fraction(3, 4);
        x.bar(0, 0);
        fraction(0, 1, x.guessed(0));
        fraction(3, 2, x.guessed(1));
    }

    private void fair() {
        begin(22);
        make(1);
        slipsAt(0);
        row(0, 0);
        row(1, 0);
        x.put(0, 2);
        fraction(0, 1, x.fair(0));
        childIn(0, true, 0, 5, 0, 0);
        fraction(0, 1, x.fair(0));
        childIn(0, true, 0, 5, 0, 0);
        fraction(5, 16, x.fair(0));
        childIn(0, false, 9, 0, 9, 9);
        fraction(5, 8, x.fair(0));
        childIn(1, true, 0, 9, 0, 0);
        fraction(5, 8, x.fair(0));
        fraction(0, 1, x.fair(1));
        due(BAD, x.fair(2));
        due(BAD, x.fair(-1));
    }

    /** All of the ROW's places of an ORDER, and THE FRACTION behind each. */
    private void order(int above, int below, int... slips) {
        for (int i = 0; i < 6; i++) {
            due(i < slips.length ? slips[i] : -5, x.order(0, i));
            fraction(above, below);
        }
    }

    private void orders() {
        begin(23);
        line(3);
        slipsAt(0, 1, 2);
        row(0, 2, 1, 0);
        x.put(0, 1);
        // With 2 ahead of all 2 minutes are walked, else 4; and 3 are riddled.
        x.put(1, 5);
        order(5, 1, 2, 0, 1);
        x.put(1, 0);
        order(5, 1, 2, 0, 1);
        x.put(1, 7);
        order(7, 1, 0, 1, 2);
        x.put(1, 200);
        order(7, 1, 0, 1, 2);
        x.put(1, 6);
        order(7, 1, 0, 1, 2);
        due(3, x.count(3));
        due(BAD, x.order(0, 6));
        due(BAD, x.order(0, -1));
        due(BAD, x.order(2, 0));
        due(NO, x.order(1, 0));
        // The first one is read at START, where the child may riddle.
        childIn(0, true, 0, 5, 0, 0);
        x.bar(0, 1);
        x.bar(0, 2);
        x.put(0, 2);
        x.put(1, 8);
        // 0 first: 3/2 + 2 + 2 riddled and 4 walked; 1 or 2 first: 3/2 + 3/2 + 2, and 4 or 2.
        order(9, 1, 1, 0, 2);
    }

    private void ordersOfRowsThatCanNotBeWalked() {
        begin(23);
        line(3);
        x.way(1, 2, 0);
        slipsAt(0, 2, 2);
        x.put(0, 1);
        // To where 1 lies there is no WALK, but none is needed if it is read first.
        row(0, 0, 1);
        due(NO, x.length(0, 0));
        order(2, 1, 1, 0);
        row(0, 0, 1, 2);
        due(NO, x.order(0, 0));
        row(0);
        due(NO, x.order(0, 0));
        row(0, 0);
        order(1, 1, 0);
        x.put(3, 3);
        due(NO, x.order(0, 0));
        x.put(3, 0);
        x.put(4, 3);
        due(NO, x.order(0, 0));
        x.put(4, 2);
        due(NO, x.order(0, 0));
    }

    private void kinds() {
        begin(24);
        make(1);
        childIn(0, true, 1, 5, 5, 9);
        x.slip(0, 3);
        row(0, 0);
        x.put(0, 1);
        // SHARED is not for who READS; DRAWN and TURNED are alike.
        due(1, x.kinds(0, 0));
        fraction(1, 2);
        due(-5, x.kinds(0, 1));
        due(-5, x.kinds(0, 5));
        childIn(0, false, 9, 4, 9, 9);
        // The second one has .5 * .4 of DRAWN ones, all of SHARED, none of others.
        due(1, x.kinds(0, 0));
        fraction(1, 5);
        x.slip(0, 0);
        row(0, 1, 0);
        // 1, 3 or 3, 1: .5 and more than that; 2, 3 too: the first by KINDS.
        due(1, x.kinds(0, 0));
        due(3, x.kinds(0, 1));
        fraction(1, 2);
        due(-5, x.kinds(0, 2));
        due(BAD, x.kinds(0, 6));
        due(BAD, x.kinds(0, -1));
        due(BAD, x.kinds(2, 0));
        due(NO, x.kinds(1, 0));
    }

    private void kindsOfLikeOnes() {
        begin(24);
        make(1);
        slipsAt(0);
        row(0, 0);
        x.put(0, 2);
        due(0, x.kinds(0, 0));
        fraction(0, 1);
        childIn(0, true, 0, 0, 0, 0);
        childIn(0, true, 1, 9, 5, 0);
        // The first one never has any: the mean is 19/10, 11/10, 3/2, 2.
        x.put(1, 30);
        due(3, x.kinds(0, 0));
        fraction(0, 1);
        x.put(1, 0);
        due(1, x.kinds(0, 0));
        x.put(1, 2);
        due(3, x.kinds(0, 0));
        x.put(1, 1);
        due(1, x.kinds(0, 0));
        childIn(1, true, 0, 0, 0, 9);
        due(1, x.kinds(0, 0));
    }

    private void meetings() {
        begin(25);
        make(4);
        x.way(0, 1, 5);
        slipsAt(0, 0, 1, 1, 2);
        due(NO, x.meet());
        row(0, 0);
        due(NO, x.meet());
        row(1, 2);
        // Both are read at START.
        due(1, x.meet());
        row(0, 0, 2);
        row(1, 1, 3);
        due(2, x.meet());
        // The second lot is there from 4 + 9 on, when the first one has it at the latest.
        x.way(0, 2, 2);
        x.means(1, 2);
        due(2, x.meet());
        x.way(0, 2, 3);
        due(1, x.meet());
        // A riddle ahead that may be had in a minute: from 1 + 11 on.
        childIn(1, true, 0, 1, 0, 0);
        due(2, x.meet());
        x.way(0, 2, 4);
        due(1, x.meet());
        // The same SLIP in both ROWS.
        row(1, 0, 2);
        due(2, x.meet());
        x.put(4, 3);
        due(NO, x.meet());
    }

    private void apart() {
        begin(26);
        line(4);
        slipsAt(0, 1, 2, 3, 1);
        x.put(0, 1);
        due(-20, x.apart(0));
        row(0, 0, 1, 2);
        due(-20, x.apart(-1));
        row(1, 4, 3, 2);
        // Lot 0 is at 1 in 2 .. 3, at 2 in 4 .. 5; the second lot, by 2, 3, 1: at 3 in 4 .. 5, at 1 in 7 .. 8.
        due(1, x.apart(-1));
        due(2, x.apart(0));
        due(3, x.apart(1));
        due(4, x.apart(2));
        due(-5, x.apart(3));
        due(-5, x.apart(5));
        due(-10, x.apart(6));
        due(-10, x.apart(-2));
        due(2, x.status(0));
        due(2, x.status(1));
        fraction(0, 1);
        x.unrow(0);
        due(-20, x.apart(-1));
    }

    private void sooner() {
        begin(27);
        make(1);
        childIn(0, true, 0, 5, 0, 0);
        x.slip(0, 1);
        x.slip(0, 0);
        row(0, 0, 1);
        x.put(0, 3);
        x.put(1, 3);
        // Early for 0: 1 + 3 minutes; for 1: 1 + 1, 2 or 3.
        due(1, x.sooner(0));
        fraction(1, 4);
        x.put(1, 4);
        due(0, x.sooner(0));
        fraction(0, 1);
        row(0, 1, 0);
        due(1, x.sooner(0));
        x.put(1, 2);
        due(1, x.sooner(0));
        fraction(1, 2);
        x.put(1, 1);
        row(0, 0, 1);
        due(0, x.sooner(0));
        fraction(1, 1);
        due(BAD, x.sooner(2));
        due(BAD, x.sooner(-1));
        due(NO, x.sooner(1));
        // WALKS count.
        x.place();
        x.way(0, 1, 9);
        x.put(4, 1);
        x.put(1, 12);
        due(1, x.sooner(0));
        fraction(1, 4);
    }
}
