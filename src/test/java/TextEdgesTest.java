/** Promise 16, a HOUSE as THE TEXT tells it: each sentence that names an edge has a test of its own here. */
final class TextEdgesTest extends Promises {
    private static final String[] WORDS = {"place", "way", "sees", "child", "bar", "join", "slip", "spare", "means", "row"};
    private static final int[] NUMBERS_OF = {0, 3, 2, 5, 2, 2, 2, 1, 2, 2};
    /** Four ITEMS that are not refused; with them there are two PLACES, a CHILD and a SLIP. */
    private static final String FOUR = "place;place;child 1 1 1 1 1;slip 0 0;";

    public static void main(String[] args) {
        TextEdgesTest t = new TextEdgesTest();
        t.emptyTexts();
        t.eachItem();
        t.itemsToTheirMost();
        t.numbers();
        t.longRuns();
        t.blanks();
        t.noBlanksNeeded();
        t.words();
        t.otherBytes();
        t.wrongTokens();
        t.earlyEnds();
        t.lastBytes();
        t.toldAnew();
        t.whatStays();
        t.refusedAsBad();
        t.refusedAsNo();
        t.refusedAsFull();
        t.inTheirOrder();
        t.nothingChanges();
        t.faultAheadOfRefused();
        t.check.end("TextEdgesTest");
    }

    /** What house() answers, where it changes nothing: STATUS counts no FAULT, and no ITEM. */
    private void leaves(int due, String text) {
        x.clear();
        type(text);
        long before = x.digest();
        due(due, x.house());
        due(before, x.digest());
        for (int i = 0; i < 3; i++) {
            due(0, x.status(i));
        }
    }

    private void fault(int at, String text) {
        leaves(-10 - at, text);
    }

    /** The digest of what this tells, THE TEXT put away. */
    private long house(int items, String text) {
        due(items, told(text));
        x.clear();
        return x.digest();
    }

    private void emptyTexts() {
        edge(16, "an empty one: no FAULT, no ITEMS");
        make(3);
        due(0, x.house());
        due(0, x.count(0));
        edge(16, "one of blanks alone: no FAULT, no ITEMS");
        make(3);
        due(0, told(" "));
        due(0, x.count(0));
        make(2);
        due(0, told(" ".repeat(300)));
        due(0, x.count(0));
        due(0, x.status(0) + x.status(1) + x.status(2));
    }

    private void eachItem() {
        edge(16, "each ITEM");
        long told = house(18, "place;place;way 0 1 3;sees 0 1;child 1 2 3 4 5;child 0 6 7 8 9;bar 1 0;join 0 1;slip 1 3;"
                + "slip 0 2;spare 1;means 0 1;row 0 1;row 1 0;row 1 1;place;way 2 0 9;sees 2 0;");
        x = new SlipHunt();
        make(3);
        x.way(0, 1, 3);
        x.way(0, 2, 9);
        x.sees(0, 1);
        x.sees(2, 0);
        x.child(true, 2, 3, 4, 5);
        x.child(false, 6, 7, 8, 9);
        x.bar(1, 0);
        x.join(0, 1);
        x.slip(1, 3);
        x.slip(0, 2);
        x.spare(1);
        x.means(0, 1);
        row(0, 1);
        row(1, 0, 1);
        due(x.digest(), told);
    }

    private void itemsToTheirMost() {
        edge(16, "10 PLACES, 6 CHILDREN, 8 SLIPS, a ROW of 6 are not refused");
        due(30, told("place;".repeat(10) + "child1 9 9 9 9;".repeat(6) + "slip9 3;".repeat(8)
                + "row1 7;row1 0;row1 6;row1 1;row1 5;row1 2;"));
        due(10, x.count(0));
        due(6, x.count(1));
        due(8, x.count(2));
        due(6, x.count(4));
        edge(16, "numbers from the least to the greatest");
        due(9, told("place;place;way 0 1 9;way 1 0 0;child 0 0 0 0 0;child 1 9 9 9 9;join 1 1;join 1 0;slip 1 0;"));
        due(NONE, x.walk(0, 1));
        due(0, x.join(1, 0));
        edge(16, "as many ITEMS as 300 bytes hold");
        leaves(-1010, "place;".repeat(50));
        edge(16, "300 bytes, 39 ITEMS");
        due(39, told("place;".repeat(10) + "child1 1 1 1 1;" + "join0 0;".repeat(28) + " "));
        due(300, x.count(6));
        due(0, x.join(0, 1));
    }

    private void numbers() {
        edge(16, "figures (1 to 3 are one number)");
        long due = house(4, "place;place;way 0 1 9;slip 1 2;");
        for (String way : new String[] {"00 1 9", "0 01 9", "0 1 09", "000 1 9", "0 001 9", "0 1 009", "000 001 009"}) {
            due(due, house(4, "place;place;way " + way + ";slip 1 2;"));
        }
        due(due, house(4, "place;place;way 0 1 9;slip 001 002;"));
        edge(16, "numbers of two and three figures are as they read");
        for (String way : new String[] {"0 1 10", "0 1 90", "0 1 100", "0 1 900", "0 1 999", "10 1 9", "0 010 9"}) {
            leaves(-1002, "place;place;way " + way + ";");
        }
    }

    private void longRuns() {
        edge(16, "a run of four figures or more (at its first one)");
        fault(4, "way 0000 1 9;");
        fault(6, "way 0 0001 9;");
        fault(8, "way 0 1 0009;");
        fault(8, "way 0 1 00000009;");
        fault(6, "spare 1234");
        fault(6, "spare 99999;");
        fault(0, "0000");
        fault(5, "place0000;");
        fault(8, "spare 0 0000;");
        fault(14, "child 1 2 3 4 5678;");
        edge(16, "a run of three is none");
        due(1, told("place;"));
        leaves(-1000, "spare 123;");
        fault(9, "spare 123");
    }

    private void blanks() {
        edge(16, "blanks, any number, ahead of, between and behind TOKENS");
        long due = house(4, "place;place;way 0 1 3;slip 1 2;");
        due(due, house(4, " place;place;way 0 1 3;slip 1 2;"));
        due(due, house(4, "place;place;way 0 1 3;slip 1 2; "));
        due(due, house(4, "place ;place;way 0 1 3;slip 1 2;"));
        due(due, house(4, "place; place;way 0 1 3;slip 1 2;"));
        due(due, house(4, "place;place;way  0 1 3;slip 1 2;"));
        due(due, house(4, "place;place;way 0   1 3;slip 1 2;"));
        due(due, house(4, "place;place;way 0 1 3  ;slip 1 2;"));
        due(due, house(4, " ".repeat(200) + "place;place;way 0 1 3;slip 1" + " ".repeat(60) + "2;"));
        edge(16, "a blank stands in no TOKEN");
        fault(0, "pla ce;");
        fault(0, "w ay 0 1 3;");
        fault(10, "way 0 1 0 3;");
    }

    private void noBlanksNeeded() {
        edge(16, "blanks are needed only between two words, two numbers");
        long due = house(11, "place ; place ; way 0 1 3 ; sees 0 1 ; child 1 2 3 4 5 ; bar 0 0 ; join 0 1 ; slip 0 0 ; "
                + "spare 0 ; means 0 1 ; row 0 0 ;");
        due(due, house(11, "place;place;way0 1 3;sees0 1;child1 2 3 4 5;bar0 0;join0 1;slip0 0;spare0;means0 1;row0 0;"));
        edge(16, "two words without a blank are one that is none");
        fault(0, "placeplace;");
        fault(6, "place;wayway 0 1 3;");
        fault(6, "place;placespare 0;");
        edge(16, "two numbers without a blank are one");
        fault(8, "way 0 13;");
        fault(9, "way 0 139");
        leaves(-1000, "spare 10;");
        fault(6, "spare 1000;");
    }

    private void words() {
        edge(16, "a word that is none");
        for (int w = 0; w < WORDS.length; w++) {
            String word = WORDS[w];
            String rest = " 0".repeat(NUMBERS_OF[w]) + ";";
            x = new SlipHunt();
            fault(0, word.substring(1) + rest);
            fault(0, word.substring(0, word.length() - 1) + rest);
            fault(6, "place;" + word + "s" + rest);
            fault(6, "place;" + word + "z" + rest);
            fault(7, "place; a" + word + rest);
            fault(1, " " + word.substring(0, 1) + rest);
            fault(0, "z" + word.substring(1) + rest);
            fault(0, word.substring(0, word.length() - 1) + "a" + rest);
            fault(0, word.substring(0, 1).toUpperCase() + word.substring(1) + rest);
        }
        edge(16, "a KIND is told as its number");
        fault(13, "place;slip 0 drawn;");
        fault(6, "child yes 1 1 1 1;");
    }

    private void otherBytes() {
        for (int b = 0; b < 256; b++) {
            boolean blank = b == ' ';
            boolean letter = b >= 'a' && b <= 'z';
            boolean figure = b >= '0' && b <= '9';
            String one = String.valueOf((char) b);
            edge(16, "byte " + b + " ahead of a TOKEN");
            due(blank ? 2 : -16, told("place;" + one + "place;"));
            edge(16, "byte " + b + " in a word");
            due(-10, told("pla" + one + "ce;"));
            edge(16, "byte " + b + " behind a word");
            due(blank ? 1 : b == ';' ? -16 : letter ? -10 : -15, told("place" + one + ";"));
            edge(16, "byte " + b + " behind a number");
            int due = blank || b == '0' ? 3 : figure ? -1002 : b == ';' ? -33 : -32;
            due(due, told("place;slip 0 0;spare 0" + one + ";"));
        }
    }

    private void wrongTokens() {
        edge(16, "the first TOKEN that can not stand there");
        fault(0, ";");
        fault(2, "  ;place;");
        fault(0, "0;");
        fault(6, "place;;");
        fault(6, "place;7;");
        fault(6, "place 7;");
        fault(6, "place place;");
        for (int w = 0; w < WORDS.length; w++) {
            edge(16, "too few or too many numbers behind " + WORDS[w]);
            int n = NUMBERS_OF[w];
            String all = WORDS[w] + " 0".repeat(n);
            if (n > 0) {
                String less = WORDS[w] + " 0".repeat(n - 1);
                fault(less.length(), less + ";");
                fault(less.length() + 1, less + " place;");
            }
            fault(all.length() + 1, all + " 0;");
            fault(all.length() + 1, all + " place;");
            fault(all.length() + 1, all + ";;");
        }
    }

    private void earlyEnds() {
        for (int w = 0; w < WORDS.length; w++) {
            edge(16, "THE TEXT's length, if it ends too early: " + WORDS[w]);
            for (int n = 0; n <= NUMBERS_OF[w]; n++) {
                String early = WORDS[w] + " 0".repeat(n);
                fault(early.length(), early);
                fault(early.length() + 3, early + "   ");
            }
        }
        edge(16, "a word that is none is one at the end, too");
        fault(0, "plac");
        fault(6, "place;s");
        fault(7, "place; wa");
    }

    private void lastBytes() {
        edge(16, "the 300th byte");
        due(1, told(" ".repeat(294) + "place;"));
        due(1, x.count(0));
        fault(300, " ".repeat(295) + "place");
        fault(299, " ".repeat(299) + "-");
        fault(299, " ".repeat(299) + ";");
        fault(299, " ".repeat(299) + "0");
        fault(299, " ".repeat(299) + "w");
        edge(16, "TOKENS up to the 300th byte");
        fault(300, " ".repeat(291) + "spare 000");
        fault(296, " ".repeat(290) + "spare 0000");
        leaves(-1000, " ".repeat(292) + "spare 0;");
        fault(0, "z".repeat(300));
        fault(0, "0".repeat(300));
    }

    /** A HOUSE with all in it that THE TEXT may tell. */
    private void furnish() {
        make(10);
        for (int p = 0; p < 10; p++) {
            x.way(p, (p + 1) % 10, 1 + p % 9);
            x.sees(p, (p + 3) % 10);
        }
        for (int c = 0; c < 6; c++) {
            childIn(c % 2, c % 3 > 0, 9, 8, 7, 6);
            x.bar(c, c);
        }
        for (int s = 0; s < 8; s++) {
            x.slip(9 - s, s % 4);
            x.spare(s);
            x.means(s, s);
        }
        row(0, 0, 1, 2, 3, 4, 5);
        row(1, 7, 6, 5, 4, 3, 2);
    }

    private void toldAnew() {
        edge(16, "all of these are told anew by these alone");
        long due = house(4, FOUR);
        x = new SlipHunt();
        furnish();
        due(due, house(4, FOUR));
        // What was there stays in nothing that comes later.
        for (int p = 2; p < 10; p++) {
            x.place();
        }
        for (int p = 1; p < 10; p++) {
            due(0, x.way(p - 1, p, 0));
            due(1, x.sees(p - 1, p));
            due(1, x.sees(p, p - 1));
        }
        due(1, x.bar(0, 0));
        due(NONE, x.join(0, NONE));
        due(1, x.spare(0));
        due(1, x.means(0, 0));
        due(0, x.unrow(0));
        due(0, x.unrow(1));
        edge(16, "a HOUSE of no ITEMS, then others by calls");
        furnish();
        due(0, told(""));
        make(4);
        due(0, x.way(0, 1, 0));
        due(1, x.sees(0, 3));
        childIn(0, true, 1, 1, 1, 1);
        due(1, x.bar(0, 0));
        slipsAt(0);
        due(1, x.spare(0));
        due(1, x.means(0, 0));
        due(1, x.row(0, 0));
        edge(16, "nothing of what was told before is told anew");
        due(5, told("place;place;place;way 0 1 5;sees 0 1;"));
        due(3, told("place;place;place;"));
        due(NONE, x.walk(0, 1));
        due(1, x.sees(0, 1));
        edge(16, "nothing of what was refused is told by the next one");
        due(-1008, told("place;place;way 0 1 5;sees 0 1;child 1 1 1 1 1;slip 0 0;row 0 0;row 1 0;spare 1;"));
        due(4, told(FOUR));
        due(0, x.way(0, 1, 0));
        due(1, x.sees(0, 1));
        due(0, x.count(3));
        due(0, x.count(4));
        edge(16, "told twice is told once");
        due(house(4, FOUR), house(4, FOUR));
    }

    private void whatStays() {
        edge(16, "NUMBERS stay");
        furnish();
        int[] put = {6, 200, 10, 9, 8};
        for (int i = 0; i < 5; i++) {
            x.put(i, put[i]);
        }
        due(4, told(FOUR));
        no(() -> x.length(0, 0));
        for (int i = 0; i < 5; i++) {
            due(put[i], x.put(i, put[i]));
        }
        edge(16, "REPORTS stay");
        x.report(2, 17);
        x.report(3, 99);
        due(4, told(FOUR));
        due(2, x.count(5));
        due(17, x.hard(2, 0));
        due(99, x.hard(3, 1));
        edge(16, "THE TEXT stays");
        due(4, told(FOUR));
        due(FOUR.length(), x.count(6));
        x.unrow(0);
        x.slip(0, 0);
        due(4, x.house());
        due(1, x.count(2));
        type("place;");
        due(5, x.house());
        due(3, x.count(0));
        edge(16, "THE FRACTION, IMAGES and STATUS stay");
        x.report(1, 7);
        x.hard(1, 2);
        x.place();
        x.image(1);
        bad(() -> x.unrow(2));
        due(4, told(FOUR));
        fraction(7, 1);
        due(1, x.status(0));
        due(1, x.from(1));
        due(1, x.count(0));
        no(() -> x.from(0));
    }

    private void refusedAsBad() {
        String[] items = {"way 0 2 1", "way 2 0 1", "way 0 0 1", "way 0 1 10", "sees 0 2", "sees 2 0", "sees 1 1",
            "child 2 0 0 0 0", "child 999 0 0 0 0", "child 0 10 0 0 0", "child 0 0 10 0 0", "child 0 0 0 10 0",
            "child 0 0 0 0 10", "bar 1 0", "bar 0 2", "join 1 0", "join 0 2", "slip 2 0", "slip 0 4", "spare 1",
            "means 1 0", "means 0 2", "row 2 0", "row 0 1"};
        for (String item : items) {
            edge(16, "an ITEM that is refused as BAD: " + item);
            leaves(-1004, FOUR + item + ";place;");
            x.clear();
            leaves(-1004, FOUR + item.replaceAll("\\d+$", "99") + ";");
        }
        String[] others = {"way 0 1 9", "way 1 0 0", "sees 0 1", "sees 1 0", "child 1 0 0 0 0", "child 0 9 9 9 9", "bar 0 1",
            "join 0 0", "join 0 1", "slip 1 3", "spare 0", "means 0 1", "row 0 0", "row 1 0"};
        for (String item : others) {
            edge(16, "an ITEM that is just not refused: " + item);
            due(6, told(FOUR + item + ";place;"));
        }
    }

    private void refusedAsNo() {
        for (String item : new String[] {"sees 0 1;", "bar 0 1;", "spare 0;", "means 0 1;", "row 0 0;", "row 1 0;"}) {
            edge(16, "an ITEM that is refused as NO: " + item);
            leaves(-1005, FOUR + item + item);
            due(5, told(FOUR + item));
        }
        for (String item : new String[] {"way 0 1 1;", "join 0 1;", "child 1 1 1 1 1;", "slip 0 0;", "place;"}) {
            edge(16, "an ITEM that may be told twice: " + item);
            due(6, told(FOUR + item + item));
        }
    }

    private void refusedAsFull() {
        edge(16, "an ITEM that is refused as FULL");
        leaves(-1010, "place;".repeat(11));
        leaves(-1006, "child1 1 1 1 1;".repeat(7));
        leaves(-1009, "place;" + "slip0 0;".repeat(9));
        leaves(-1014, "place;" + "slip0 0;".repeat(7) + "row0 0;row0 1;row0 2;row0 3;row0 4;row0 5;row0 6;");
        leaves(-1014, "place;" + "slip0 0;".repeat(7) + "row1 6;row1 5;row1 4;row1 3;row1 2;row1 1;row1 0;");
        due(10, told("place;".repeat(10)));
        edge(16, "what is there already does not fill it");
        furnish();
        due(10, told("place;".repeat(10)));
        due(6, told("child1 1 1 1 1;".repeat(6)));
        due(0, x.count(0));
    }

    private void inTheirOrder() {
        edge(16, "in their order");
        leaves(-1000, "slip 0 0;place;");
        leaves(-1001, "place;row 0 0;slip 0 0;");
        leaves(-1001, "place;bar 0 0;child 1 1 1 1 1;");
        leaves(-1001, "place;way 0 1 1;place;");
        due(3, told("place;place;way 0 1 1;"));
        edge(16, "the first ITEM that is refused, by its number (0 on)");
        leaves(-1000, "spare 0;");
        leaves(-1001, "place;spare 0;place;spare 0;");
        leaves(-1012, "place;".repeat(10) + "child1 1 1 1 1;join0 1;spare0;");
        leaves(-1012, "place;".repeat(10) + "child1 1 1 1 1;join0 1;row0 0;spare0;");
        leaves(-1038, "place;".repeat(10) + "child1 1 1 1 1;" + "join0 0;".repeat(27) + "join0 2;");
    }

    private void nothingChanges() {
        edge(16, "an ITEM is refused: nothing changes");
        furnish();
        leaves(-1004, FOUR + "spare 1;");
        due(10, x.count(0));
        due(6, x.unrow(0));
        no(() -> x.spare(7));
        edge(16, "a FAULT: nothing changes");
        furnish();
        fault(FOUR.length(), FOUR + "7;");
        due(10, x.count(0));
        due(6, x.unrow(1));
        no(() -> x.means(7, 7));
        edge(16, "refused once more, then not");
        leaves(-1004, FOUR + "spare 1;");
        due(-1004, x.house());
        x.clear();
        type(FOUR + "spare 0;");
        due(5, x.house());
        no(() -> x.spare(0));
    }

    private void faultAheadOfRefused() {
        edge(16, "a FAULT behind an ITEM that would be refused");
        fault(13, "row 0 0;place");
        fault(8, "row 0 0;7");
        fault(9, "row 0 0; -");
    }
}
