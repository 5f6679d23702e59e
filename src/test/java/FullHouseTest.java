import java.util.Random;

/** Houses as full as they may be, held against the slow model: long rows, many children, late help. */
final class FullHouseTest {
    private static final int HOUSES = 4;
    private static final int NONE = -1;

    public static void main(String[] args) {
        Check check = new Check();
        for (int house = 0; house < HOUSES && check.isClean(); house++) {
            new FullHouseTest(check, house).play();
        }
        check.end("FullHouseTest");
    }

    private final Check check;
    private final int number;
    private final Random dice;
    private final SlipHunt x = new SlipHunt();
    private final SlowHunt y = new SlowHunt();

    private FullHouseTest(Check check, int number) {
        this.check = check;
        this.number = number;
        this.dice = new Random(31 + number);
    }

    private void play() {
        build();
        for (int lot = 0; lot < 2; lot++) {
            ask(lot);
        }
        same("meet", y.meet(), x.meet());
        same("apart", y.apart(NONE), x.apart(NONE));
        for (int i = 0; i < 6; i++) {
            same("apart " + i, y.bestOrder.get(i), x.apart(i));
        }
        for (int c = 0; c < 6; c++) {
            same("guessed " + c, y.guessed(c), x.guessed(c));
        }
    }

    private void build() {
        for (int p = 0; p < 10; p++) {
            y.place();
            x.place();
        }
        for (int p = 1; p < 10; p++) {
            way(dice.nextInt(p), p, 1 + dice.nextInt(9));
            way((p * 3 + 1) % 10, p, 1 + dice.nextInt(9));
        }
        for (int c = 0; c < 6; c++) {
            boolean reads = dice.nextInt(4) > 0;
            int[] q = {dice.nextInt(10), dice.nextInt(10), dice.nextInt(10), dice.nextInt(10)};
            y.child(reads, q);
            x.child(reads, q[0], q[1], q[2], q[3]);
            int lot = number == 0 ? 0 : dice.nextInt(2);
            y.join(c, lot);
            x.join(c, lot);
            int place = dice.nextInt(10);
            y.bar(c, place);
            x.bar(c, place);
        }
        for (int s = 0; s < 8; s++) {
            int place = dice.nextInt(10);
            int kind = dice.nextInt(4);
            y.slip(place, kind);
            x.slip(place, kind);
            for (int m = dice.nextInt(4); m > 0; m--) {
                int mistaken = dice.nextInt(10);
                y.means(s, mistaken);
                x.means(s, mistaken);
            }
        }
        for (int i = 0; i < 6; i++) {
            same("row", y.row(0, (i * 5 + number) % 8), x.row(0, (i * 5 + number) % 8));
            same("row", y.row(1, (i * 3 + 2 * number) % 8), x.row(1, (i * 3 + 2 * number) % 8));
        }
        put(0, number == 3 ? 2 : 6);
        put(1, 40 + 10 * number);
        put(3, dice.nextInt(10));
        put(4, dice.nextInt(10));
    }

    private void ask(int lot) {
        for (int i = 0; i < 6; i++) {
            same("riddles " + i, y.riddles(lot, i), x.riddles(lot, i));
        }
        same("order", y.order(lot, 0), x.order(lot, 0));
        for (int i = 0; i < 6; i++) {
            same("order " + i, y.bestOrder.get(i), x.order(lot, i));
        }
        for (int what = 0; what < 3; what++) {
            same("length " + what, y.length(lot, what), x.length(lot, what));
        }
        for (int b = 30; b < 130; b += 7) {
            same("ends to " + b, y.ends(lot, b - 20, b), x.ends(lot, b - 20, b));
        }
        same("fair", y.fair(lot), x.fair(lot));
        same("sooner", y.sooner(lot), x.sooner(lot));
        same("soon", y.soon(lot), x.soon(lot));
        same("kinds", y.kinds(lot, 0), x.kinds(lot, 0));
        for (int i = 0; i < 6; i++) {
            same("kinds " + i, y.bestKinds[i], x.kinds(lot, i));
        }
    }

    private void way(int a, int b, int n) {
        same("way", y.way(a, b, n), x.way(a, b, n));
    }

    private void put(int what, int v) {
        same("put", y.put(what, v), x.put(what, v));
    }

    private void same(String what, long due, long got) {
        check.same("house " + number + ": " + what, due, got);
        check.same("house " + number + ": digest after " + what, y.digest(), x.digest());
    }
}
