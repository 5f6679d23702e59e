/** Promises 1 to 16: a house. */
final class HousePromisesTest extends Promises {
    public static void main(String[] args) {
        HousePromisesTest t = new HousePromisesTest();
        t.newObject();
        t.places();
        t.ways();
        t.sights();
        t.children();
        t.bars();
        t.joins();
        t.slips();
        t.spares();
        t.mistakes();
        t.rows();
        t.emptiedRows();
        t.numbers();
        t.typing();
        t.clearing();
        t.houses();
        t.housesToldAnew();
        t.refusedItems();
        t.faults();
        t.check.end("HousePromisesTest");
    }

    private void newObject() {
        begin(1);
        for (int i = 0; i < 7; i++) {
            due(0, x.count(i));
        }
        int[] first = {4, 30, 1, 0, 0};
        for (int i = 0; i < 5; i++) {
            due(first[i], x.put(i, first[i]));
        }
        fraction(0, 1);
        for (int i = 0; i < 3; i++) {
            due(0, x.status(i));
        }
        due(NO, x.from(0));
        due(NO, x.from(1));
        due(NONE, SlipHunt.NONE);
        due(BAD, SlipHunt.BAD);
        due(NO, SlipHunt.NO);
        due(FULL, SlipHunt.FULL);
    }

    private void places() {
        begin(2);
        for (int i = 0; i < 10; i++) {
            due(i, x.place());
        }
        due(FULL, x.place());
        due(10, x.count(0));
        due(1, x.status(2));
    }

    private void ways() {
        begin(3);
        make(3);
        due(0, x.way(0, 1, 9));
        due(9, x.way(1, 0, 4));
        due(4, x.walk(0, 1));
        due(4, x.walk(1, 0));
        due(4, x.way(0, 1, 0));
        due(NONE, x.walk(0, 1));
        due(BAD, x.way(1, 1, 3));
        due(BAD, x.way(0, 3, 3));
        due(BAD, x.way(3, 0, 3));
        due(BAD, x.way(-1, 0, 3));
        due(BAD, x.way(0, -1, 3));
        due(BAD, x.way(0, 1, 10));
        due(BAD, x.way(0, 1, -1));
        due(0, x.way(0, 1, 0));
        due(7, x.status(0));
    }

    private void sights() {
        begin(4);
        make(3);
        due(1, x.sees(0, 2));
        due(NO, x.sees(0, 2));
        due(1, x.sees(2, 0));
        due(BAD, x.sees(1, 1));
        due(BAD, x.sees(0, 3));
        due(BAD, x.sees(3, 0));
        due(BAD, x.sees(-1, 0));
        due(BAD, x.sees(0, -1));
        due(5, x.status(0));
        due(1, x.status(1));
    }

    private void children() {
        begin(5);
        due(BAD, x.child(true, 10, 0, 0, 0));
        due(BAD, x.child(true, 0, 10, 0, 0));
        due(BAD, x.child(false, 0, 0, -1, 0));
        due(BAD, x.child(false, 0, 0, 0, 10));
        for (int i = 0; i < 6; i++) {
            due(i, x.child(i % 2 == 0, 0, 9, i, 9 - i));
        }
        due(FULL, x.child(true, 0, 0, 0, 0));
        due(BAD, x.child(true, 0, 0, 0, -1));
        due(6, x.count(1));
        due(NONE, x.join(5, 0));
    }

    private void bars() {
        begin(6);
        line(2);
        childIn(0, true, 5, 5, 5, 5);
        slipsAt(1, 1);
        row(0, 0, 1);
        fraction(1, 2, x.riddles(0, 1));
        due(1, x.bar(0, 1));
        due(NO, x.bar(0, 1));
        fraction(0, 1, x.riddles(0, 1));
        fraction(1, 2, x.riddles(0, 0));
        due(1, x.bar(0, 0));
        fraction(0, 1, x.riddles(0, 0));
        due(BAD, x.bar(1, 0));
        due(BAD, x.bar(-1, 0));
        due(BAD, x.bar(0, 2));
        due(BAD, x.bar(0, -1));
    }

    private void joins() {
        begin(7);
        x.child(true, 1, 1, 1, 1);
        due(-1, x.join(0, 1));
        due(1, x.join(0, 0));
        due(0, x.join(0, -1));
        due(-1, x.join(0, -1));
        due(-10, x.join(0, 2));
        due(-10, x.join(0, -2));
        due(-10, x.join(1, 0));
        due(-10, x.join(-1, 0));
        due(4, x.status(0));
        due(-1, x.join(0, 0));
    }

    private void slips() {
        begin(8);
        due(BAD, x.slip(0, 0));
        make(2);
        due(BAD, x.slip(2, 0));
        due(BAD, x.slip(-1, 0));
        due(BAD, x.slip(0, 4));
        due(BAD, x.slip(0, -1));
        for (int i = 0; i < 8; i++) {
            due(i, x.slip(i % 2, i % 4));
        }
        due(FULL, x.slip(0, 0));
        due(BAD, x.slip(0, 4));
        due(8, x.count(2));
    }

    private void spares() {
        begin(9);
        due(BAD, x.spare(0));
        make(1);
        slipsAt(0, 0);
        row(0, 0, 1);
        due(2, x.hangs(0));
        due(1, x.spare(0));
        due(0, x.hangs(0));
        due(NO, x.spare(0));
        due(BAD, x.spare(2));
        due(BAD, x.spare(-1));
    }

    private void mistakes() {
        begin(10);
        line(3);
        due(BAD, x.means(0, 0));
        slipsAt(0);
        row(0, 0);
        due(4, x.length(0, 0));
        due(1, x.means(0, 1));
        due(4, x.length(0, 0));
        x.put(4, 2);
        due(6, x.length(0, 0));
        x.put(3, 1);
        due(5, x.length(0, 0));
        due(1, x.means(0, 0));
        due(7, x.length(0, 0));
        due(NO, x.means(0, 1));
        due(BAD, x.means(1, 0));
        due(BAD, x.means(-1, 0));
        due(BAD, x.means(0, 3));
        due(BAD, x.means(0, -1));
        due(1, x.means(0, 2));
        due(7, x.length(0, 0));
    }

    private void rows() {
        begin(11);
        make(1);
        slipsAt(0, 0, 0, 0, 0, 0, 0);
        for (int i = 0; i < 6; i++) {
            due(i + 1, x.row(0, i));
        }
        due(NO, x.row(0, 5));
        due(FULL, x.row(0, 6));
        due(1, x.row(1, 5));
        due(NO, x.row(1, 5));
        due(BAD, x.row(0, 7));
        due(BAD, x.row(0, -1));
        due(BAD, x.row(2, 0));
        due(BAD, x.row(-1, 0));
        due(6, x.count(3));
        due(1, x.count(4));
    }

    private void emptiedRows() {
        begin(12);
        make(1);
        slipsAt(0, 0);
        due(0, x.unrow(0));
        row(0, 0, 1);
        row(1, 1);
        due(2, x.unrow(0));
        due(0, x.count(3));
        due(1, x.count(4));
        due(1, x.row(0, 1));
        due(BAD, x.unrow(2));
        due(BAD, x.unrow(-1));
        due(1, x.unrow(1));
    }

    private void numbers() {
        begin(13);
        int[] least = {1, 0, 0, 0, 0};
        int[] most = {6, 200, 10, 9, 9};
        int[] first = {4, 30, 1, 0, 0};
        for (int i = 0; i < 5; i++) {
            due(first[i], x.put(i, least[i]));
            due(least[i], x.put(i, most[i]));
            due(BAD, x.put(i, least[i] - 1));
            due(BAD, x.put(i, most[i] + 1));
            due(most[i], x.put(i, most[i]));
        }
        due(BAD, x.put(5, 1));
        due(BAD, x.put(-1, 1));
    }

    private void typing() {
        begin(14);
        due(1, x.type('p', 1));
        due(4, x.type((long) 'l' << 16 | 'a' << 8 | 'c', 3));
        due(6, x.type(0x4141414141410000L | 'e' << 8 | ';', 2));
        due(1, x.house());
        x.clear();
        due(8, x.type(0x706c6163653b2020L, 8));
        due(1, x.house());
        due(BAD, x.type(0, 0));
        due(BAD, x.type(0, 9));
        due(BAD, x.type(0, -1));
        for (int i = 2; i <= 37; i++) {
            due(8 * i, x.type(0x2020202020202020L, 8));
        }
        due(FULL, x.type(0, 5));
        due(BAD, x.type(0, 9));
        due(300, x.type(0x20202020L, 4));
        due(FULL, x.type(0, 1));
        due(300, x.count(6));
        due(1, x.house());
        x.clear();
        x.type(0xffL, 1);
        due(-10, x.house());
    }

    private void clearing() {
        begin(15);
        due(0, x.clear());
        type("place;");
        due(6, x.clear());
        due(0, x.clear());
        due(0, x.house());
        type("way");
        due(3, x.count(6));
    }

    private void houses() {
        begin(16);
        due(13, told("place;place;place;way 0 1 3;sees 0 1;child 1 2 3 4 5;bar 0 1;join 0 1;slip 2 3;spare 0;means 0 1;"
                + "row 1 0;row 0 0;"));
        due(3, x.count(0));
        due(1, x.count(1));
        due(1, x.count(2));
        due(1, x.count(3));
        due(1, x.count(4));
        due(3, x.walk(0, 1));
        due(NO, x.sees(0, 1));
        due(1, x.sees(1, 0));
        due(NO, x.bar(0, 1));
        due(NO, x.spare(0));
        due(NO, x.means(0, 1));
        due(1, x.join(0, 1));
        due(0, x.status(0));
        due(4, x.status(1));

        due(7, told("   place;place ;child  0 0 5 7 0;join 000 00;slip 001 1  ;slip1 2;row0 0;  "));
        fraction(1, 2, x.riddles(0, 0));
        x.unrow(0);
        x.row(0, 1);
        fraction(0, 1, x.riddles(0, 0));
        // THE TEXT to its last byte.
        due(36, told("place;child1 1 1 1 1;" + "join0 0;".repeat(34) + " ".repeat(7)));
        due(300, x.count(6));
        due(0, x.join(0, 1));
    }

    private void housesToldAnew() {
        begin(16);
        make(2);
        x.way(0, 1, 4);
        x.sees(0, 1);
        childIn(0, true, 1, 1, 1, 1);
        x.bar(0, 0);
        slipsAt(0);
        x.spare(0);
        x.means(0, 1);
        row(0, 0);
        x.put(1, 77);
        x.put(3, 9);
        x.report(2, 9);
        x.image(0);
        due(4, told("place;place;child 1 1 1 1 1;slip 0 0;"));
        due(37, x.count(6));
        due(NONE, x.walk(0, 1));
        due(1, x.sees(0, 1));
        due(1, x.bar(0, 0));
        due(NONE, x.join(0, 0));
        due(1, x.spare(0));
        due(1, x.means(0, 1));
        due(0, x.count(3));
        due(77, x.put(1, 77));
        due(9, x.put(3, 0));
        due(1, x.count(5));
        due(1, x.from(0));
        due(4, x.walk(0, 1));

        long before = x.digest();
        due(0, told(" "));
        due(0, x.count(0));
        due(0, x.count(1));
        due(0, x.count(2));
        x.from(0);
        due(1, x.count(6));
        x.clear();
        type("place;place;child 1 1 1 1 1;slip 0 0;");
        due(before, x.digest());
    }

    private void refusedItems() {
        begin(16);
        make(1);
        x.report(1, 1);
        String[] refused = {"way 0 2 3;", "way 0 1 10;", "way 0 0 1;", "sees 1 1;", "child 2 0 0 0 0;", "child 1 0 0 0 10;",
            "bar 0 0;", "join 0 0;", "slip 0 4;", "slip 2 0;", "spare 0;", "means 0 0;", "row 0 0;"};
        for (String item : refused) {
            due(-1002, told("place;place;" + item + "place;"));
            due(1, x.count(0));
        }
        due(-1003, told("place;place;sees 0 1;sees 0 1;"));
        due(-1003, told("place;child 1 1 1 1 1;bar 0 0;bar 0 0;"));
        due(-1003, told("place;slip 0 0;spare 0;spare 0;"));
        due(-1003, told("place;slip 0 0;means 0 0;means 0 0;"));
        due(-1003, told("place;slip 0 0;row 0 0;row 0 0;"));
        due(-1002, told("place;child 1 1 1 1 1;join 0 2;"));
        due(-1000, told("row 0 0;"));
        due(-1010, told("place;".repeat(11)));
        due(-1009, told("place;" + "slip0 0;".repeat(9)));
        due(-1006, told("child1 1 1 1 1;".repeat(7)));
        due(1, x.count(0));
        for (int i = 0; i < 3; i++) {
            due(0, x.status(i));
        }
    }

    private void faults() {
        begin(16);
        make(1);
        due(-10, told("plac;"));
        due(-10, told("placee;"));
        due(-10, told("blace;"));
        due(-16, told("place;cow 0 0;"));
        due(-10, told(";"));
        due(-10, told("7;"));
        due(-10, told("Place;"));
        due(-12, told("  -"));
        due(-15, told("place"));
        due(-18, told("place   "));
        due(-16, told("place 0;"));
        due(-16, told("place;;"));
        due(-16, told("place place;"));
        due(-16, told("place;pla ce;"));
        due(-13, told("way"));
        due(-14, told("way x"));
        due(-14, told("way ;"));
        due(-15, told("way 0"));
        due(-16, told("way 0 1234 5;"));
        due(-16, told("way 0 0001 5;"));
        due(-19, told("way 0 1 5"));
        due(-20, told("way 0 1 5 6;"));
        due(-18, told("way 0 1 -5;"));
        due(-19, told("way 0 1 5place;"));
        due(-21, told("spare 0;row\t0 0;"));
        due(-24, told("place;row 0 0;PLACE;"));
        due(1, x.count(0));
        for (int i = 0; i < 3; i++) {
            due(0, x.status(i));
        }
    }
}
