/** Promises 1 to 15: each sentence that names an edge has a test of its own here. */
final class HouseEdgesTest extends Promises {
    public static void main(String[] args) {
        HouseEdgesTest t = new HouseEdgesTest();
        t.nothingAtFirst();
        t.firstNumbers();
        t.places();
        t.ways();
        t.waysBetweenWrongPlaces();
        t.sights();
        t.children();
        t.bars();
        t.joins();
        t.slips();
        t.spares();
        t.mistakes();
        t.rows();
        t.emptiedRows();
        t.numbers();
        t.typing();
        t.typedBytes();
        t.fullText();
        t.clearing();
        t.check.end("HouseEdgesTest");
    }

    private void nothingAtFirst() {
        edge(1, "no PLACES");
        due(0, x.count(0));
        bad(() -> x.way(0, 1, 1));
        bad(() -> x.sees(0, 1));
        bad(() -> x.slip(0, 0));
        bad(() -> x.walk(0, 0));
        due(0, x.place());
        edge(1, "no CHILDREN");
        due(0, x.count(1));
        x.place();
        bad(() -> x.bar(0, 0));
        badTold(-10, () -> x.join(0, 0));
        bad(() -> x.guessed(0));
        due(0, x.child(true, 0, 0, 0, 0));
        edge(1, "no SLIPS");
        due(0, x.count(2));
        x.place();
        bad(() -> x.spare(0));
        bad(() -> x.means(0, 0));
        bad(() -> x.row(0, 0));
        bad(() -> x.row(1, 0));
        due(0, x.slip(0, 0));
        edge(1, "ROWS are empty");
        due(0, x.count(3));
        due(0, x.count(4));
        no(() -> x.hangs(0));
        no(() -> x.hangs(1));
        due(0, x.unrow(0));
        due(0, x.unrow(1));
        edge(1, "no REPORTS");
        due(0, x.count(5));
        for (int kind = 0; kind < 4; kind++) {
            int k = kind;
            no(() -> x.hard(k, 2));
        }
        due(1, x.report(0, 1));
        edge(1, "THE TEXT is empty");
        due(0, x.count(6));
        due(0, x.clear());
        due(0, x.house());
        edge(1, "no IMAGES");
        no(() -> x.from(0));
        no(() -> x.from(1));
    }

    private void firstNumbers() {
        edge(1, "NUMBERS at first");
        due(4, x.put(0, 1));
        due(30, x.put(1, 1));
        due(1, x.put(2, 2));
        due(0, x.put(3, 1));
        due(0, x.put(4, 1));
        edge(1, "THE FRACTION is 0 by 1 at first");
        fraction(0, 1);
        edge(1, "STATUS at first");
        for (int i = 0; i < 3; i++) {
            due(0, x.status(i));
        }
        edge(1, "of itself alone");
        long first = x.digest();
        line(3);
        childIn(0, true, 1, 2, 3, 4);
        slipsAt(0, 1);
        row(0, 0);
        x.put(0, 6);
        x.report(1, 1);
        x.type(0, 8);
        x.image(0);
        x.status(7);
        SlipHunt other = new SlipHunt();
        due(first, other.digest());
        due(0, other.status(0));
        due(NO, other.from(0));
    }

    private void places() {
        edge(2, "PLACES 0 .. 9, as they come");
        for (int i = 0; i < 10; i++) {
            due(i, x.count(0));
            due(i, x.place());
        }
        due(0, x.way(9, 0, 1));
        edge(2, "FULL: 10");
        make(9);
        due(9, x.place());
        full(() -> x.place());
        full(() -> x.place());
        due(10, x.count(0));
        bad(() -> x.walk(10, 0));
        edge(2, "a new PLACE: no WAYS, nothing SEEN");
        line(2);
        x.sees(0, 1);
        due(2, x.place());
        due(NONE, x.walk(0, 2));
        due(0, x.way(1, 2, 0));
        due(1, x.sees(2, 0));
        due(1, x.sees(0, 2));
    }

    private void ways() {
        edge(3, "minutes 0 .. 9");
        make(2);
        due(0, x.way(0, 1, 9));
        bad(() -> x.way(0, 1, 10));
        bad(() -> x.way(0, 1, -1));
        due(9, x.way(0, 1, 0));
        bad(() -> x.way(0, 1, 10));
        bad(() -> x.way(0, 1, -1));
        for (int n : FAR_OFF) {
            bad(() -> x.way(0, 1, n));
        }
        due(0, x.way(0, 1, 1));
        edge(3, "either way");
        make(3);
        due(0, x.way(0, 2, 5));
        due(5, x.walk(2, 0));
        due(5, x.way(2, 0, 6));
        due(6, x.walk(0, 2));
        due(6, x.way(0, 2, 6));
        due(NONE, x.walk(1, 2));
        edge(3, "0: none; 0 at first");
        make(2);
        due(0, x.way(1, 0, 3));
        due(3, x.way(0, 1, 0));
        due(NONE, x.walk(0, 1));
        due(NONE, x.walk(1, 0));
        due(0, x.way(1, 0, 0));
        edge(3, "BAD: alike, too");
        make(3);
        for (int place = 0; place < 3; place++) {
            int p = place;
            bad(() -> x.way(p, p, 1));
            bad(() -> x.way(p, p, 0));
        }
        edge(3, "between the last two PLACES");
        make(10);
        due(0, x.way(9, 8, 9));
        due(9, x.way(8, 9, 8));
        due(8, x.walk(9, 8));
        due(0, x.way(0, 9, 1));
        due(9, x.walk(8, 0));
    }

    private void waysBetweenWrongPlaces() {
        edge(3, "a PLACE that is not there");
        make(3);
        for (int p : new int[] {-1, 3, 9, 10}) {
            bad(() -> x.way(p, 0, 1));
            bad(() -> x.way(0, p, 1));
            bad(() -> x.way(p, p, 1));
        }
        x.place();
        due(0, x.way(3, 0, 1));
        edge(3, "a PLACE far off");
        make(3);
        for (int p : FAR_OFF) {
            bad(() -> x.way(p, 2, 1));
            bad(() -> x.way(2, p, 1));
        }
    }

    private void sights() {
        edge(4, "from a one SEES b, not so the other way");
        make(2);
        due(1, x.sees(0, 1));
        no(() -> x.sees(0, 1));
        due(1, x.sees(1, 0));
        no(() -> x.sees(1, 0));
        no(() -> x.sees(0, 1));
        edge(4, "BAD: alike, too (itself always)");
        make(10);
        for (int place = 0; place < 10; place++) {
            int p = place;
            bad(() -> x.sees(p, p));
        }
        edge(4, "a PLACE that is not there");
        make(3);
        for (int p : new int[] {-1, 3, 9, 10}) {
            bad(() -> x.sees(p, 0));
            bad(() -> x.sees(0, p));
        }
        for (int p : FAR_OFF) {
            bad(() -> x.sees(p, 2));
            bad(() -> x.sees(2, p));
        }
        edge(4, "the last PLACE");
        make(10);
        due(1, x.sees(9, 8));
        due(1, x.sees(8, 9));
        due(1, x.sees(0, 9));
        no(() -> x.sees(0, 9));
        edge(4, "BAD ahead of NO");
        make(2);
        x.sees(0, 1);
        bad(() -> x.sees(0, 2));
    }

    private void children() {
        for (int kind = 0; kind < 4; kind++) {
            edge(5, "QUICK 0 .. 9 at KIND " + kind);
            int k = kind;
            due(0, quick(k, 0));
            due(1, quick(k, 9));
            bad(() -> quick(k, -1));
            bad(() -> quick(k, 10));
            for (int q : FAR_OFF) {
                bad(() -> quick(k, q));
            }
            due(2, quick(k, 1));
        }
        edge(5, "FULL: 6");
        for (int i = 0; i < 6; i++) {
            due(i, x.count(1));
            due(i, x.child(i % 2 == 0, 9, 9, 9, 9));
        }
        full(() -> x.child(true, 0, 0, 0, 0));
        full(() -> x.child(false, 9, 9, 9, 9));
        due(6, x.count(1));
        goOn(5);
        for (int kind = 0; kind < 4; kind++) {
            int k = kind;
            bad(() -> quick(k, 10));
            bad(() -> quick(k, -1));
        }
        edge(5, "in no LOT, not BARRED at first");
        make(1);
        x.child(true, 9, 9, 9, 9);
        slipsAt(0);
        row(0, 0);
        row(1, 0);
        fraction(0, 1, x.riddles(0, 0));
        fraction(0, 1, x.riddles(1, 0));
        due(NONE, x.join(0, 0));
        fraction(9, 10, x.riddles(0, 0));
        due(1, x.bar(0, 0));
    }

    private int quick(int kind, int q) {
        return x.child(true, kind == 0 ? q : 4, kind == 1 ? q : 4, kind == 2 ? q : 4, kind == 3 ? q : 4);
    }

    private void bars() {
        edge(6, "a CHILD that is not there");
        make(2);
        x.child(true, 1, 1, 1, 1);
        x.child(true, 1, 1, 1, 1);
        for (int c : new int[] {-1, 2, 5, 6}) {
            bad(() -> x.bar(c, 0));
        }
        for (int c : FAR_OFF) {
            bad(() -> x.bar(c, 1));
        }
        edge(6, "a PLACE that is not there");
        make(2);
        x.child(true, 1, 1, 1, 1);
        for (int p : new int[] {-1, 2, 9, 10}) {
            bad(() -> x.bar(0, p));
        }
        for (int p : FAR_OFF) {
            bad(() -> x.bar(0, p));
        }
        edge(6, "NO: it is so");
        make(10);
        x.child(true, 1, 1, 1, 1);
        x.child(true, 1, 1, 1, 1);
        for (int place = 0; place < 10; place++) {
            int p = place;
            due(1, x.bar(1, p));
            no(() -> x.bar(1, p));
        }
        due(1, x.bar(0, 9));
        due(1, x.bar(0, 0));
        bad(() -> x.bar(1, 10));
        bad(() -> x.bar(2, 9));
    }

    private void joins() {
        edge(7, "LOT NONE, 0, 1");
        x.child(true, 1, 1, 1, 1);
        due(-1, x.join(0, -1));
        due(-1, x.join(0, 0));
        due(0, x.join(0, 0));
        due(0, x.join(0, 1));
        due(1, x.join(0, 1));
        due(1, x.join(0, -1));
        due(0, x.status(0) + x.status(1) + x.status(2));
        edge(7, "BAD: -10: another LOT");
        x.child(true, 1, 1, 1, 1);
        x.join(0, 1);
        badTold(-10, () -> x.join(0, 2));
        badTold(-10, () -> x.join(0, -2));
        for (int lot : FAR_OFF) {
            badTold(-10, () -> x.join(0, lot));
        }
        due(1, x.join(0, 1));
        edge(7, "BAD: -10: a CHILD that is not there");
        x.child(true, 1, 1, 1, 1);
        for (int c : new int[] {-1, 1, 5, 6}) {
            badTold(-10, () -> x.join(c, 0));
            badTold(-10, () -> x.join(c, -1));
        }
        for (int c : FAR_OFF) {
            badTold(-10, () -> x.join(c, 0));
        }
    }

    private void slips() {
        edge(8, "KINDS 0 .. 3");
        make(1);
        due(0, x.slip(0, 0));
        due(1, x.slip(0, 3));
        bad(() -> x.slip(0, -1));
        bad(() -> x.slip(0, 4));
        for (int k : FAR_OFF) {
            bad(() -> x.slip(0, k));
        }
        edge(8, "a PLACE that is not there");
        make(2);
        for (int p : new int[] {-1, 2, 9, 10}) {
            bad(() -> x.slip(p, 0));
        }
        for (int p : FAR_OFF) {
            bad(() -> x.slip(p, 0));
        }
        due(0, x.slip(1, 0));
        edge(8, "FULL: 8");
        make(10);
        for (int i = 0; i < 8; i++) {
            due(i, x.count(2));
            due(i, x.slip(9 - i, i % 4));
        }
        full(() -> x.slip(0, 0));
        full(() -> x.slip(9, 3));
        due(8, x.count(2));
        bad(() -> x.slip(0, 4));
        bad(() -> x.slip(10, 0));
        edge(8, "not SPARE, none MISTAKEN at first");
        make(10);
        slipsAt(9);
        due(1, x.spare(0));
        for (int p = 0; p < 10; p++) {
            due(1, x.means(0, p));
        }
    }

    private void spares() {
        edge(9, "a SLIP that is not there");
        make(1);
        slipsAt(0, 0);
        for (int s : new int[] {-1, 2, 7, 8}) {
            bad(() -> x.spare(s));
        }
        for (int s : FAR_OFF) {
            bad(() -> x.spare(s));
        }
        edge(9, "NO: it is so");
        make(1);
        slipsAt(0, 0, 0, 0, 0, 0, 0, 0);
        due(1, x.spare(7));
        no(() -> x.spare(7));
        due(1, x.spare(0));
        no(() -> x.spare(0));
        due(1, x.spare(6));
        bad(() -> x.spare(8));
    }

    private void mistakes() {
        edge(10, "a SLIP that is not there");
        make(2);
        slipsAt(0, 0);
        for (int s : new int[] {-1, 2, 7, 8}) {
            bad(() -> x.means(s, 0));
        }
        for (int s : FAR_OFF) {
            bad(() -> x.means(s, 0));
        }
        edge(10, "a PLACE that is not there");
        make(2);
        slipsAt(0);
        for (int p : new int[] {-1, 2, 9, 10}) {
            bad(() -> x.means(0, p));
        }
        for (int p : FAR_OFF) {
            bad(() -> x.means(0, p));
        }
        edge(10, "NO: it is so");
        make(10);
        slipsAt(3, 3, 3, 3, 3, 3, 3, 3);
        // The PLACE where it lies is one too.
        for (int place = 0; place < 10; place++) {
            int p = place;
            due(1, x.means(7, p));
            no(() -> x.means(7, p));
        }
        due(1, x.means(6, 9));
        bad(() -> x.means(7, 10));
        bad(() -> x.means(8, 9));
    }

    private void rows() {
        edge(11, "a LOT that is none");
        make(1);
        slipsAt(0);
        bad(() -> x.row(2, 0));
        bad(() -> x.row(-1, 0));
        for (int lot : FAR_OFF) {
            bad(() -> x.row(lot, 0));
        }
        edge(11, "a SLIP that is not there");
        make(1);
        slipsAt(0, 0);
        for (int s : new int[] {-1, 2, 7, 8}) {
            bad(() -> x.row(0, s));
            bad(() -> x.row(1, s));
        }
        for (int s : FAR_OFF) {
            bad(() -> x.row(1, s));
        }
        edge(11, "NO: it is in it (each once)");
        make(1);
        slipsAt(0, 0, 0, 0, 0, 0, 0, 0);
        for (int i = 0; i < 6; i++) {
            due(i + 1, x.row(0, 7 - i));
        }
        for (int slip = 2; slip < 8; slip++) {
            int s = slip;
            no(() -> x.row(0, s));
        }
        edge(11, "it may be in the ROW of the other LOT");
        make(1);
        slipsAt(0, 0);
        due(1, x.row(0, 1));
        due(1, x.row(1, 1));
        no(() -> x.row(1, 1));
        due(2, x.row(1, 0));
        due(2, x.row(0, 0));
        edge(11, "FULL: 6");
        make(1);
        slipsAt(0, 0, 0, 0, 0, 0, 0, 0);
        for (int i = 0; i < 6; i++) {
            due(i, x.count(4));
            due(i + 1, x.row(1, i));
        }
        full(() -> x.row(1, 6));
        full(() -> x.row(1, 7));
        due(6, x.count(4));
        no(() -> x.row(1, 5));
        bad(() -> x.row(1, 8));
        due(0, x.count(3));
        due(1, x.row(0, 6));
    }

    private void emptiedRows() {
        edge(12, "an empty ROW");
        due(0, x.unrow(0));
        due(0, x.unrow(1));
        due(0, x.status(0) + x.status(1) + x.status(2));
        edge(12, "a full ROW");
        make(1);
        slipsAt(0, 0, 0, 0, 0, 0, 0, 0);
        row(0, 0, 1, 2, 3, 4, 5);
        row(1, 7, 6, 5, 4, 3, 2);
        due(6, x.unrow(0));
        due(0, x.count(3));
        due(6, x.count(4));
        due(0, x.unrow(0));
        due(1, x.row(0, 5));
        due(6, x.unrow(1));
        due(1, x.unrow(0));
        due(8, x.count(2));
        edge(12, "BAD: a LOT that is none");
        bad(() -> x.unrow(2));
        bad(() -> x.unrow(-1));
        for (int lot : FAR_OFF) {
            bad(() -> x.unrow(lot));
        }
    }

    private void numbers() {
        int[] least = {1, 0, 0, 0, 0};
        int[] most = {6, 200, 10, 9, 9};
        for (int number = 0; number < 5; number++) {
            edge(13, "from the least to the greatest: NUMBER " + number);
            int w = number;
            x.put(w, least[w]);
            bad(() -> x.put(w, least[w] - 1));
            due(least[w], x.put(w, most[w]));
            bad(() -> x.put(w, most[w] + 1));
            for (int v : FAR_OFF) {
                bad(() -> x.put(w, v));
            }
            due(most[w], x.put(w, most[w]));
            due(most[w], x.put(w, least[w]));
            due(least[w], x.put(w, least[w]));
        }
        edge(13, "another NUMBER");
        bad(() -> x.put(5, 1));
        bad(() -> x.put(-1, 1));
        for (int w : FAR_OFF) {
            bad(() -> x.put(w, 1));
        }
        edge(13, "START, CAKE: of 0 .. 9, there or not");
        due(0, x.put(3, 9));
        due(0, x.put(4, 9));
        due(9, x.put(3, 0));
        due(9, x.put(4, 1));
        due(0, x.count(0));
    }

    private void typing() {
        edge(14, "1 .. 8 bytes");
        int length = 0;
        for (int n = 1; n <= 8; n++) {
            length += n;
            due(length, x.type(0, n));
        }
        bad(() -> x.type(0, 0));
        bad(() -> x.type(0, 9));
        bad(() -> x.type(0, -1));
        for (int n : FAR_OFF) {
            bad(() -> x.type(0, n));
        }
        due(36, x.count(6));
        edge(14, "BAD changes no byte of THE TEXT");
        type("place;");
        bad(() -> x.type(0, 0));
        bad(() -> x.type(0, 9));
        due(1, x.house());
    }

    private void typedBytes() {
        String text = "bar 1 0;";
        for (int n = 1; n <= 8; n++) {
            edge(14, "the lowest " + n + ", the highest of them first");
            type("place;child 1 1 1 1 1;child 1 1 1 1 1;");
            long v = 'Z';
            for (int i = 0; i < n; i++) {
                v = v << 8 | text.charAt(i);
            }
            // What stands above them does not matter.
            due(38 + n, x.type(n < 8 ? v | 0xC1L << 56 : v, n));
            type(text.substring(n));
            due(4, x.house());
            no(() -> x.bar(1, 0));
            due(1, x.bar(0, 0));
        }
        edge(14, "bytes of the sign and its like");
        due(8, x.type(Long.MIN_VALUE, 8));
        due(-10, x.house());
        x.clear();
        due(8, x.type(-1, 8));
        due(-10, x.house());
        x.clear();
        due(1, x.type(Long.MIN_VALUE | ' ', 1));
        due(0, x.house());
        x.clear();
        due(1, x.type(Long.MAX_VALUE, 1));
        due(-10, x.house());
        x.clear();
        due(2, x.type(0xFFFFFFFFFFFF2020L, 2));
        due(0, x.house());
    }

    private void fullText() {
        edge(14, "FULL: 300 bytes");
        type(" ".repeat(292));
        due(300, x.type(0x2020202020202020L, 8));
        due(300, x.count(6));
        for (int bytes = 1; bytes <= 8; bytes++) {
            int n = bytes;
            full(() -> x.type(0, n));
        }
        bad(() -> x.type(0, 0));
        bad(() -> x.type(0, 9));
        edge(14, "FULL: one too many");
        type(" ".repeat(293));
        full(() -> x.type(0, 8));
        due(293, x.count(6));
        due(0, x.house());
        due(300, x.type(0x20202020202020L, 7));
        due(0, x.house());
        edge(14, "FULL: the last byte");
        type(" ".repeat(299));
        full(() -> x.type(0, 2));
        due(300, x.type(' ', 1));
        full(() -> x.type(' ', 1));
        due(0, x.house());
        due(300, x.clear());
        due(1, x.type(' ', 1));
    }

    private void clearing() {
        edge(15, "an empty one");
        due(0, x.clear());
        due(0, x.clear());
        due(0, x.status(0) + x.status(1) + x.status(2));
        edge(15, "a full one");
        type(" ".repeat(300));
        due(300, x.clear());
        due(0, x.count(6));
        due(0, x.clear());
        edge(15, "what was is not told again");
        type("place;");
        due(6, x.clear());
        due(0, x.house());
        due(0, x.count(0));
        type("place;place;");
        x.clear();
        type("place;");
        due(1, x.house());
        due(1, x.count(0));
        edge(15, "THE TEXT alone");
        line(2);
        slipsAt(0);
        type("place;");
        long before = x.digest();
        x.clear();
        type("place;");
        due(before, x.digest());
    }
}
