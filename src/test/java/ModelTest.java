import java.util.Random;

/** Long runs of chosen-by-number calls, each held against the slow model: answers, THE FRACTION, STATUS, digest. */
final class ModelTest {
    private static final int RUNS = 1000;

    /** What later calls answer is free. */
    private static final int MOST_CALLS = 512;

    private final Random dice;
    private final Check check;
    private final int run;
    private final SlipHunt x = new SlipHunt();
    private final SlowHunt y = new SlowHunt();
    /** How large rows may be here: the slow model takes its time over long ones. */
    private final int longestRow;
    private int calls;

    private ModelTest(int run, Check check) {
        this.run = run;
        this.check = check;
        this.dice = new Random(7919L * run + 1);
        this.longestRow = run % 50 == 0 ? 5 : run % 5 == 0 ? 4 : 3;
    }

    public static void main(String[] args) {
        Check check = new Check();
        for (int run = 0; run < RUNS && check.isClean(); run++) {
            new ModelTest(run, check).play();
        }
        check.end("ModelTest");
    }

    private void same(String call, long due, long got) {
        calls++;
        check.same("run " + run + ", call " + calls + ": " + call, due, got);
    }

    private int upTo(int most) {
        return dice.nextInt(most + 1);
    }

    /** Mostly 0 .. most - 1, now and then beyond. */
    private int about(int most) {
        return dice.nextInt(12) == 0 ? dice.nextInt(most + 4) - 2 : dice.nextInt(Math.max(most, 1));
    }

    private void play() {
        if (run % 3 == 0) {
            buildByText();
        } else {
            build();
        }
        fractionIs();
        while (calls < MOST_CALLS - 60 && check.isClean()) {
            int pick = dice.nextInt(100);
            if (pick < 30) {
                change();
            } else if (pick < 75) {
                askHunt();
            } else if (pick < 85) {
                askRest();
            } else {
                keep();
            }
        }
        same("digest()", y.digest(), x.digest());
        check.that("an object is used for " + calls + " calls", calls <= MOST_CALLS);
    }

    private void build() {
        int places = 2 + upTo(run % 4 == 0 ? 8 : 4);
        for (int i = 0; i < places; i++) {
            same("place()", y.place(), x.place());
        }
        for (int i = 1; i < places; i++) {
            way(dice.nextInt(i), i, dice.nextInt(14) == 0 ? 0 : 1 + upTo(8));
        }
        for (int i = 0; i < places / 2; i++) {
            way(dice.nextInt(places), dice.nextInt(places), upTo(9));
        }
        int children = upTo(6);
        for (int i = 0; i < children; i++) {
            child();
        }
        for (int i = 0; i < children; i++) {
            join(i, dice.nextInt(6) == 0 ? -1 : upTo(1));
        }
        int slips = 1 + upTo(7);
        for (int i = 0; i < slips; i++) {
            slip(dice.nextInt(places), upTo(3));
        }
        for (int i = 0; i < 4; i++) {
            row(upTo(1), dice.nextInt(slips));
        }
        put(0, 1 + upTo(5));
        put(1, upTo(60));
    }

    private void buildByText() {
        StringBuilder text = new StringBuilder();
        int places = 2 + upTo(4);
        for (int i = 0; i < places; i++) {
            text.append("place;");
        }
        for (int i = 1; i < places; i++) {
            text.append("way ").append(dice.nextInt(i)).append(' ').append(i).append(' ').append(1 + upTo(8)).append(';');
        }
        int children = 1 + upTo(2);
        for (int i = 0; i < children; i++) {
            text.append("child ").append(upTo(1));
            for (int k = 0; k < 4; k++) {
                text.append(' ').append(upTo(9));
            }
            text.append(";join ").append(i).append(' ').append(upTo(1)).append(';');
        }
        for (int i = 0; i < 4; i++) {
            text.append(" slip ").append(dice.nextInt(places)).append(' ').append(upTo(3)).append(" ; ");
        }
        text.append("row 0 1;row 0 2;row 1 2;row 1 0;");
        if (dice.nextInt(3) == 0) {
            text.append("spare 1;means 1 0;bar 0 1;sees 0 1;");
        }
        type(text.toString());
        same("house()", y.house(), x.house());
    }

    private void type(String text) {
        same("clear()", y.clear(), x.clear());
        for (int i = 0; i < text.length();) {
            int n = Math.min(text.length() - i, 1 + upTo(7));
            long v = dice.nextLong();
            for (int k = 0; k < n; k++, i++) {
                v = v << 8 | text.charAt(i);
            }
            type(v, n);
        }
    }

    private void change() {
        int places = y.state.places;
        int slips = y.state.slips.size();
        int children = y.state.children.size();
        switch (dice.nextInt(16)) {
            case 0 -> same("place()", y.place(), x.place());
            case 1, 2 -> way(about(places), about(places), about(10));
            case 3 -> sees(about(places), about(places));
            case 4 -> child();
            case 5 -> bar(about(children), about(places));
            case 6 -> join(about(children), about(3) - 1);
            case 7 -> slip(about(places), about(4));
            case 8 -> spare(about(slips));
            case 9 -> means(about(slips), about(places));
            case 10, 11 -> row(about(2), about(slips));
            case 12 -> unrow(about(2));
            case 13 -> put(about(5), about(7));
            case 14 -> put(1, about(70));
            default -> put(3 + upTo(1), about(places));
        }
    }

    private void askHunt() {
        int lot = about(2);
        int i = about(6);
        switch (dice.nextInt(14)) {
            case 0 -> same("walk()", y.walk(i, lot), x.walk(i, lot));
            case 1 -> same("riddles(" + lot + ", " + i + ")", y.riddles(lot, i), x.riddles(lot, i));
            case 2, 3 -> {
                int what = about(3);
                same("length(" + lot + ", " + what + ")", y.length(lot, what), x.length(lot, what));
            }
            case 4, 5 -> {
                int a = about(60);
                int b = dice.nextInt(9) == 0 ? 990 + upTo(20) : about(80);
                same("ends(" + lot + ", " + a + ", " + b + ")", y.ends(lot, a, b), x.ends(lot, a, b));
            }
            case 6 -> {
                int child = about(y.state.children.size());
                same("guessed(" + child + ")", y.guessed(child), x.guessed(child));
            }
            case 7 -> same("fair(" + lot + ")", y.fair(lot), x.fair(lot));
            case 8 -> same("order(" + lot + ", " + i + ")", y.order(lot, i), x.order(lot, i));
            case 9 -> {
                if (lot < 0 || lot > 1 || y.state.rows.get(lot).size() < longestRow) {
                    same("kinds(" + lot + ", " + i + ")", y.kinds(lot, i), x.kinds(lot, i));
                }
            }
            case 10 -> same("meet()", y.meet(), x.meet());
            case 11 -> same("apart(" + (i - 1) + ")", y.apart(i - 1), x.apart(i - 1));
            case 12 -> same("sooner(" + lot + ")", y.sooner(lot), x.sooner(lot));
            default -> same("soon(" + lot + ")", y.soon(lot), x.soon(lot));
        }
        fractionIs();
    }

    private void fractionIs() {
        for (int which = 0; which < 2; which++) {
            int size = y.sign(1 + which);
            same("sign(" + (1 + which) + ")", size, x.sign(1 + which));
            for (int i = 0; i <= size; i += Math.max(1, size / 2)) {
                same("limb(" + which + ", " + i + ")", y.limb(which, i), x.limb(which, i));
            }
        }
        same("digest()", y.digest(), x.digest());
    }

    private void askRest() {
        int lot = about(2);
        int kind = about(4);
        int i = about(7);
        switch (dice.nextInt(8)) {
            case 0 -> same("hangs(" + lot + ")", y.hangs(lot), x.hangs(lot));
            case 1 -> same("bears(" + lot + ")", y.bears(lot), x.bears(lot));
            case 2, 3 -> {
                int minutes = dice.nextInt(9) == 0 ? about(3) - 1 : 80 + about(20);
                same("report(" + kind + ", " + minutes + ")", y.report(kind, minutes), x.report(kind, minutes));
            }
            case 4 -> same("hard(" + kind + ", " + (i - 2) + ")", y.hard(kind, i - 2), x.hard(kind, i - 2));
            case 5 -> same("count(" + i + ")", y.count(i), x.count(i));
            case 6 -> same("sign(" + (kind - 1) + ")", y.sign(kind - 1), x.sign(kind - 1));
            default -> same("limb(" + lot + ", " + (i - 1) + ")", y.limb(lot, i - 1), x.limb(lot, i - 1));
        }
        fractionIs();
    }

    private void keep() {
        int i = about(2);
        switch (dice.nextInt(10)) {
            case 0 -> same("image(" + i + ")", y.image(i), x.image(i));
            case 1 -> same("from(" + i + ")", y.from(i), x.from(i));
            case 2, 3 -> same("status(" + (i + 1) + ")", y.status(i + 1), x.status(i + 1));
            case 4 -> type(dice.nextLong(), about(9));
            case 5 -> same("house()", y.house(), x.house());
            case 6, 7 -> wildText();
            default -> same("digest()", y.digest(), x.digest());
        }
    }

    /** Texts that are almost right. */
    private void wildText() {
        String[] words = {"place", "place;", "place ;", "place; place;", "way 0 1 3;", "way", "sees 0 1;", "sees 1 0;",
            "child 1 2 3 4 5;", "child 0 1 2 3 4", "child1 2 3 4 5;", "bar 0 0;", "join 0 1;", "join 00 000;", "slip 0 1;",
            "slip 0 2;", "spare 0;", "means 0 1;", "row 0 0;", "row 1 0;", "row 0 1;", ";", " ", "  ", "7", "1234", "012",
            "placeplace", "plac", "rows", "Row", "-", "\t", "\u0000", "\u00e9", "child 2 1 1 1 1;", "place;place;place;"};
        StringBuilder text = new StringBuilder("place;place;child 1 1 1 1 1;slip 1 0;slip 0 3;".substring(0, 6 * upTo(3)));
        if (dice.nextInt(3) == 0) {
            text.append("place;place;child 1 1 1 1 1;slip 1 0;slip 0 3;");
        }
        int parts = upTo(5);
        for (int i = 0; i < parts; i++) {
            text.append(words[dice.nextInt(words.length)]);
        }
        String before = text.toString();
        if (calls > MOST_CALLS - 130) {
            return;
        }
        same("image(1)", y.image(1), x.image(1));
        type(before);
        same("house() of '" + before + "'", y.house(), x.house());
        same("digest()", y.digest(), x.digest());
        if (dice.nextInt(4) > 0) {
            same("from(1)", y.from(1), x.from(1));
        }
    }

    private void way(int a, int b, int n) {
        same("way(" + a + ", " + b + ", " + n + ")", y.way(a, b, n), x.way(a, b, n));
    }

    private void sees(int a, int b) {
        same("sees(" + a + ", " + b + ")", y.sees(a, b), x.sees(a, b));
    }

    private void child() {
        boolean reads = dice.nextBoolean();
        int[] q = {about(10), about(10), about(10), about(10)};
        same("child()", y.child(reads, q), x.child(reads, q[0], q[1], q[2], q[3]));
    }

    private void bar(int child, int place) {
        same("bar(" + child + ", " + place + ")", y.bar(child, place), x.bar(child, place));
    }

    private void join(int child, int lot) {
        same("join(" + child + ", " + lot + ")", y.join(child, lot), x.join(child, lot));
    }

    private void slip(int place, int kind) {
        same("slip(" + place + ", " + kind + ")", y.slip(place, kind), x.slip(place, kind));
    }

    private void spare(int slip) {
        same("spare(" + slip + ")", y.spare(slip), x.spare(slip));
    }

    private void means(int slip, int place) {
        same("means(" + slip + ", " + place + ")", y.means(slip, place), x.means(slip, place));
    }

    private void row(int lot, int slip) {
        if (lot >= 0 && lot < 2 && y.state.rows.get(lot).size() >= longestRow) {
            unrow(lot);
        }
        same("row(" + lot + ", " + slip + ")", y.row(lot, slip), x.row(lot, slip));
    }

    private void unrow(int lot) {
        same("unrow(" + lot + ")", y.unrow(lot), x.unrow(lot));
    }

    private void put(int what, int v) {
        same("put(" + what + ", " + v + ")", y.put(what, v), x.put(what, v));
    }

    private void type(long v, int n) {
        same("type(" + v + ", " + n + ")", y.type(v, n), x.type(v, n));
    }
}
