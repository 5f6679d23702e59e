import java.util.Arrays;

/** Slip hunts: a house, slips with riddles, lots of children, and what comes of their hunts. */
public final class SlipHunt {
    public static final int NONE = -1, BAD = -2, NO = -3, FULL = -4;

    private static final int PLACES = 10;
    private static final int CHILDREN = 6;
    private static final int SLIPS = 8;
    private static final int KINDS = 4;
    private static final int LOTS = 2;
    private static final int ROW = 6;
    private static final int REPORTS = 20;
    private static final int BYTES = 300;
    private static final int IMAGES = 2;
    private static final int LONGEST_WAY = 9;
    private static final int LAST_MINUTE = 999;

    private static final int DRAWN = 1;
    private static final int SHARED = 3;

    private static final int HELP = 0;
    private static final int GOAL = 1;
    private static final int WIND = 2;
    private static final int START = 3;
    private static final int CAKE = 4;
    private static final int NUMBERS = 5;
    private static final int MOST_HELP = 6;

    private static final int NOT_SO_MANY = -5;
    private static final int JOIN_BAD = -10;
    private static final int APART_BAD = -10;
    private static final int APART_NO = -20;
    private static final int FAULT_BASE = -10;
    private static final int REFUSED_BASE = -1000;

    /** The chances of one minute are millionths: six children of tenths each need no finer ones. */
    private static final int ALL = 1000000;
    private static final int TENS_OF_ALL = 6;

    private final House house;
    private final House fresh;
    private final Notes notes;
    private final Told told;
    private final House[] keptHouses;
    private final Notes[] keptNotes;
    private final boolean[] kept;
    private final int[] refused;
    private final Walks walks;
    private final Hunt hunt;
    private final Hunt rival;
    private final Means means;
    private final Spread spread;
    private final Orders orders;
    private final Choice choice;
    private final Fraction fraction;
    private final Big sum;
    private final Big other;

    public SlipHunt() {
        house = new House();
        fresh = new House();
        notes = new Notes();
        told = new Told();
        keptHouses = new House[IMAGES];
        keptNotes = new Notes[IMAGES];
        for (int i = 0; i < IMAGES; i++) {
            keptHouses[i] = new House();
            keptNotes[i] = new Notes();
        }
        kept = new boolean[IMAGES];
        refused = new int[3];
        walks = new Walks(house);
        hunt = new Hunt(house, notes, walks);
        rival = new Hunt(house, notes, walks);
        means = new Means(house, notes);
        spread = new Spread();
        orders = new Orders(means);
        choice = new Choice(house, means);
        fraction = new Fraction();
        sum = new Big();
        other = new Big();
    }

    // ---- a house

    public int place() {
        return counted(house.addPlace());
    }

    public int way(int a, int b, int n) {
        return counted(house.setWay(a, b, n));
    }

    public int sees(int a, int b) {
        return counted(house.addSight(a, b));
    }

    public int child(boolean reads, int rhymed, int drawn, int turned, int shared) {
        return counted(house.addChild(reads ? 1 : 0, rhymed, drawn, turned, shared));
    }

    public int bar(int child, int place) {
        return counted(house.addBar(child, place));
    }

    public int join(int child, int lot) {
        int was = counted(house.setLot(child, lot));
        return was == BAD ? JOIN_BAD : was;
    }

    public int slip(int place, int kind) {
        return counted(house.addSlip(place, kind));
    }

    public int spare(int slip) {
        return counted(house.setSpare(slip));
    }

    public int means(int slip, int place) {
        return counted(house.addMistaken(slip, place));
    }

    public int row(int lot, int slip) {
        return counted(house.addToRow(lot, slip));
    }

    public int unrow(int lot) {
        return counted(house.emptyRow(lot));
    }

    public int put(int what, int v) {
        return counted(notes.setNumber(what, v));
    }

    public int type(long v, int n) {
        return counted(told.addBytes(v, n));
    }

    public int clear() {
        return told.empty();
    }

    public int house() {
        int fault = told.findFault();
        if (fault != NONE) {
            return FAULT_BASE - fault;
        }
        fresh.empty();
        for (int i = 0; i < told.items; i++) {
            if (told.tell(fresh, i) <= BAD) {
                return REFUSED_BASE - i;
            }
        }
        house.copy(fresh);
        return told.items;
    }

    // ---- hunts

    public int walk(int a, int b) {
        if (!house.hasPlace(a) || !house.hasPlace(b)) {
            return counted(BAD);
        }
        walks.measure();
        return walks.between(a, b);
    }

    public int riddles(int lot, int i) {
        if (!within(lot, LOTS) || !within(i, house.rowSize[lot])) {
            return counted(BAD);
        }
        if (!canHunt(hunt, lot)) {
            return counted(NO);
        }
        sum.set(ALL - hunt.missed[i]);
        fraction.set(sum, TENS_OF_ALL);
        return 1;
    }

    public int length(int lot, int what) {
        if (!within(lot, LOTS) || !within(what, 3)) {
            return counted(BAD);
        }
        if (!canHunt(hunt, lot)) {
            return counted(NO);
        }
        if (what == 0) {
            return hunt.walked + hunt.least;
        }
        if (what == 1) {
            return hunt.walked + hunt.size * notes.number[HELP];
        }
        means.begin();
        means.ofLength(sum, hunt);
        fraction.set(sum, means.tens);
        return 1;
    }

    public int ends(int lot, int a, int b) {
        if (!within(lot, LOTS) || a < 0 || b < a || b > LAST_MINUTE) {
            return counted(BAD);
        }
        if (!canHunt(hunt, lot)) {
            return counted(NO);
        }
        spread.ofHunt(hunt, NONE, notes.number[HELP]);
        spread.gather(sum, a - hunt.walked, b - hunt.walked);
        fraction.set(sum, spread.tens);
        return 1;
    }

    public int guessed(int child) {
        if (!within(child, house.children)) {
            return counted(BAD);
        }
        int lot = house.lot[child];
        if (lot == NONE || !canHunt(hunt, lot)) {
            return counted(NO);
        }
        means.begin();
        means.ofGuessed(sum, hunt, child);
        fraction.set(sum, means.tens + TENS_OF_ALL);
        return 1;
    }

    public int fair(int lot) {
        if (!within(lot, LOTS)) {
            return counted(BAD);
        }
        if (!canHunt(hunt, lot)) {
            return counted(NO);
        }
        means.begin();
        means.ofUnfairness(sum, hunt);
        fraction.set(sum, means.tens + TENS_OF_ALL);
        return 1;
    }

    public int order(int lot, int i) {
        if (!within(lot, LOTS) || !within(i, ROW)) {
            return counted(BAD);
        }
        walks.measure();
        hunt.take(lot);
        means.begin();
        // The ROW as it is may be one that can't be walked, when another order of it can.
        if (!orders.findNearest(hunt)) {
            return counted(NO);
        }
        fraction.set(orders.length, means.tens);
        return i < hunt.size ? orders.best[i] : NOT_SO_MANY;
    }

    public int kinds(int lot, int i) {
        if (!within(lot, LOTS) || !within(i, ROW)) {
            return counted(BAD);
        }
        if (!canHunt(hunt, lot)) {
            return counted(NO);
        }
        means.begin();
        choice.find(hunt);
        fraction.set(choice.bestLeast, means.tens + TENS_OF_ALL);
        return i < hunt.size ? choice.best[i] : NOT_SO_MANY;
    }

    public int meet() {
        if (!canHunt(hunt, 0) || !canHunt(rival, 1)) {
            return counted(NO);
        }
        return hunt.meetings(rival);
    }

    public int apart(int i) {
        if (i != NONE && !within(i, ROW)) {
            counted(BAD);
            return APART_BAD;
        }
        if (!canHunt(hunt, 0) || !canHunt(rival, 1)) {
            counted(NO);
            return APART_NO;
        }
        orders.findApart(rival, hunt);
        if (i == NONE) {
            return orders.fewest;
        }
        return i < rival.size ? orders.best[i] : NOT_SO_MANY;
    }

    public int sooner(int lot) {
        if (!within(lot, LOTS)) {
            return counted(BAD);
        }
        if (!canHunt(hunt, lot)) {
            return counted(NO);
        }
        int best = NONE;
        for (int i = 0; i < hunt.size; i++) {
            spread.ofHunt(hunt, i, notes.number[HELP]);
            // The one with the early help takes one minute of those that may pass.
            spread.gather(other, notes.number[GOAL] - hunt.walked, Spread.MOST);
            if (best == NONE || other.compare(sum) < 0) {
                best = i;
                sum.copy(other);
            }
        }
        fraction.set(sum, spread.tens);
        return best == NONE ? NONE : hunt.slip[best];
    }

    // ---- what may go wrong

    public int hangs(int lot) {
        if (!within(lot, LOTS)) {
            return counted(BAD);
        }
        if (house.rowSize[lot] == 0) {
            return counted(NO);
        }
        int bits = 0;
        for (int i = 1; i < house.rowSize[lot]; i++) {
            if (!house.isSpareAt(lot, i - 1)) {
                bits |= 1 << i;
            }
        }
        return bits;
    }

    public int bears(int lot) {
        if (!within(lot, LOTS)) {
            return counted(BAD);
        }
        int size = house.rowSize[lot];
        if (size == 0) {
            return counted(NO);
        }
        int wind = notes.number[WIND];
        int there = 1;
        int reached = 1;
        for (int i = 1; i < size; i++) {
            int passed = house.isSpareAt(lot, i - 1) ? wind * there : 0;
            there = reached * (10 - wind);
            reached = there + passed;
        }
        sum.set(reached);
        fraction.set(sum, size - 1);
        return 1;
    }

    public int soon(int lot) {
        if (!within(lot, LOTS)) {
            return counted(BAD);
        }
        if (!canHunt(hunt, lot)) {
            return counted(NO);
        }
        int bits = 0;
        for (int i = 0; i + 2 < hunt.size; i++) {
            int seen = house.seenFromAny(walks.passed(hunt.slip[i], hunt.at[i], hunt.at[i + 1]));
            for (int j = i + 2; j < hunt.size; j++) {
                bits |= (seen >> hunt.at[j] & 1) << j;
            }
        }
        return bits;
    }

    public int report(int kind, int minutes) {
        return counted(notes.addReport(kind, minutes));
    }

    public int hard(int kind, int what) {
        if (!within(kind, KINDS) || !within(what, 3)) {
            return counted(BAD);
        }
        int many = 0;
        int total = 0;
        int least = 0;
        int greatest = 0;
        for (int i = 0; i < notes.reports; i++) {
            if (notes.kind[i] == kind) {
                int took = notes.minutes[i];
                least = many == 0 ? took : Math.min(least, took);
                greatest = Math.max(greatest, took);
                total += took;
                many++;
            }
        }
        if (many == 0) {
            return counted(NO);
        }
        if (what == 2) {
            fraction.setRatio(total, many);
            return 1;
        }
        return what == 0 ? least : greatest;
    }

    // ---- what there is

    public int sign(int what) {
        return within(what, 3) ? fraction.signOrSize(what) : counted(BAD);
    }

    public int limb(int which, int i) {
        if (!within(which, 2) || i < 0) {
            return counted(BAD);
        }
        Big part = which == 0 ? fraction.above : fraction.below;
        return i < part.used ? part.limb[i] : NONE;
    }

    public int image(int i) {
        if (!within(i, IMAGES)) {
            return counted(BAD);
        }
        keptHouses[i].copy(house);
        keptNotes[i].copy(notes);
        kept[i] = true;
        return 1;
    }

    public int from(int i) {
        if (!within(i, IMAGES)) {
            return counted(BAD);
        }
        if (!kept[i]) {
            return counted(NO);
        }
        house.copy(keptHouses[i]);
        notes.copy(keptNotes[i]);
        return 1;
    }

    public int status(int what) {
        if (!within(what, 3)) {
            counted(BAD);
            return NONE;
        }
        return refused[what];
    }

    public int count(int what) {
        return within(what, 7) ? howMany(what) : counted(BAD);
    }

    public long digest() {
        long h = 577;
        for (int what = 0; what < 7; what++) {
            h = 31 * h + howMany(what);
        }
        h = house.digestOnto(h);
        h = notes.digestOnto(h);
        return fraction.digestOnto(h);
    }

    // ---- what these share

    private static boolean within(int v, int below) {
        return v >= 0 && v < below;
    }

    /** Every answer that refuses a call goes through here, so that STATUS knows of it. */
    private int counted(int answer) {
        if (answer == BAD) {
            refused[0]++;
        } else if (answer == NO) {
            refused[1]++;
        } else if (answer == FULL) {
            refused[2]++;
        }
        return answer;
    }

    private boolean canHunt(Hunt which, int lot) {
        walks.measure();
        which.take(lot);
        return which.lay();
    }

    private int howMany(int what) {
        switch (what) {
            case 0: return house.places;
            case 1: return house.children;
            case 2: return house.slips;
            case 3: return house.rowSize[0];
            case 4: return house.rowSize[1];
            case 5: return notes.reports;
            default: return told.length;
        }
    }

    /** All that THE TEXT tells anew: PLACES, CHILDREN, SLIPS and ROWS. */
    private static final class House {
        int places;
        final int[] way = new int[PLACES * PLACES];
        final int[] seen = new int[PLACES];
        int children;
        final int[] reads = new int[CHILDREN];
        final int[] quick = new int[CHILDREN * KINDS];
        final int[] barred = new int[CHILDREN];
        final int[] lot = new int[CHILDREN];
        int slips;
        final int[] lies = new int[SLIPS];
        final int[] kind = new int[SLIPS];
        final int[] spare = new int[SLIPS];
        final int[] mistaken = new int[SLIPS];
        final int[] rowSize = new int[LOTS];
        final int[] row = new int[LOTS * ROW];

        void empty() {
            places = 0;
            children = 0;
            slips = 0;
            Arrays.fill(way, 0);
            Arrays.fill(seen, 0);
            Arrays.fill(rowSize, 0);
        }

        void copy(House o) {
            places = o.places;
            children = o.children;
            slips = o.slips;
            copyAll(o.way, way);
            copyAll(o.seen, seen);
            copyAll(o.reads, reads);
            copyAll(o.quick, quick);
            copyAll(o.barred, barred);
            copyAll(o.lot, lot);
            copyAll(o.lies, lies);
            copyAll(o.kind, kind);
            copyAll(o.spare, spare);
            copyAll(o.mistaken, mistaken);
            copyAll(o.rowSize, rowSize);
            copyAll(o.row, row);
        }

        private static void copyAll(int[] source, int[] target) {
            System.arraycopy(source, 0, target, 0, Math.min(source.length, target.length));
        }

        boolean hasPlace(int place) {
            return within(place, places);
        }

        private boolean areTwoPlaces(int a, int b) {
            return hasPlace(a) && hasPlace(b) && a != b;
        }

        private static boolean isQuick(int q) {
            return within(q, 10);
        }

        int addPlace() {
            if (places >= PLACES) {
                return FULL;
            }
            return places++;
        }

        int setWay(int a, int b, int n) {
            if (!areTwoPlaces(a, b) || n < 0 || n > LONGEST_WAY) {
                return BAD;
            }
            int was = way[a * PLACES + b];
            way[a * PLACES + b] = n;
            way[b * PLACES + a] = n;
            return was;
        }

        int addSight(int a, int b) {
            if (!areTwoPlaces(a, b)) {
                return BAD;
            }
            if ((seen[a] >> b & 1) == 1) {
                return NO;
            }
            seen[a] |= 1 << b;
            return 1;
        }

        int addChild(int reading, int rhymed, int drawn, int turned, int shared) {
            if (!within(reading, 2) || !isQuick(rhymed) || !isQuick(drawn) || !isQuick(turned)
                    || !isQuick(shared)) {
                return BAD;
            }
            if (children >= CHILDREN) {
                return FULL;
            }
            int base = children * KINDS;
            quick[base] = rhymed;
            quick[base + 1] = drawn;
            quick[base + 2] = turned;
            quick[base + 3] = shared;
            reads[children] = reading;
            barred[children] = 0;
            lot[children] = NONE;
            return children++;
        }

        int addBar(int child, int place) {
            if (!within(child, children) || !hasPlace(place)) {
                return BAD;
            }
            if ((barred[child] >> place & 1) == 1) {
                return NO;
            }
            barred[child] |= 1 << place;
            return 1;
        }

        int setLot(int child, int to) {
            if (!within(child, children) || to < NONE || to >= LOTS) {
                return BAD;
            }
            int was = lot[child];
            lot[child] = to;
            return was;
        }

        int addSlip(int place, int ofKind) {
            if (!hasPlace(place) || !within(ofKind, KINDS)) {
                return BAD;
            }
            if (slips >= SLIPS) {
                return FULL;
            }
            lies[slips] = place;
            kind[slips] = ofKind;
            spare[slips] = 0;
            mistaken[slips] = 0;
            return slips++;
        }

        int setSpare(int slip) {
            if (!within(slip, slips)) {
                return BAD;
            }
            if (spare[slip] == 1) {
                return NO;
            }
            spare[slip] = 1;
            return 1;
        }

        int addMistaken(int slip, int place) {
            if (!within(slip, slips) || !hasPlace(place)) {
                return BAD;
            }
            if ((mistaken[slip] >> place & 1) == 1) {
                return NO;
            }
            mistaken[slip] |= 1 << place;
            return 1;
        }

        int addToRow(int ofLot, int slip) {
            if (!within(ofLot, LOTS) || !within(slip, slips)) {
                return BAD;
            }
            int size = rowSize[ofLot];
            for (int i = 0; i < size; i++) {
                if (row[ofLot * ROW + i] == slip) {
                    return NO;
                }
            }
            if (size >= ROW) {
                return FULL;
            }
            row[ofLot * ROW + size] = slip;
            rowSize[ofLot] = size + 1;
            return size + 1;
        }

        int emptyRow(int ofLot) {
            if (!within(ofLot, LOTS)) {
                return BAD;
            }
            int had = rowSize[ofLot];
            rowSize[ofLot] = 0;
            return had;
        }

        boolean isSpareAt(int ofLot, int i) {
            return within(ofLot, LOTS) && within(i, rowSize[ofLot]) && spare[row[ofLot * ROW + i]] == 1;
        }

        int seenFromAny(int placeBits) {
            int bits = placeBits;
            for (int p = 0; p < places; p++) {
                if ((placeBits >> p & 1) == 1) {
                    bits |= seen[p];
                }
            }
            return bits;
        }

        /** The chance in tenths that a CHILD of a LOT has a riddle in a minute, were it alone. */
        int quickAt(int child, int ofLot, int ofKind, int place) {
            if (!within(child, children) || !within(ofKind, KINDS) || lot[child] != ofLot) {
                return 0;
            }
            if ((barred[child] >> place & 1) == 1) {
                return 0;
            }
            int needsReading = ofKind == SHARED ? 0 : 1;
            if (ofKind != DRAWN && reads[child] != needsReading) {
                return 0;
            }
            return quick[child * KINDS + ofKind];
        }

        long digestOnto(long start) {
            long h = start;
            for (int p = 0; p < places; p++) {
                for (int q = 0; q < p; q++) {
                    h = 31 * h + way[p * PLACES + q];
                }
                h = 31 * h + seen[p];
            }
            for (int c = 0; c < children; c++) {
                h = 31 * h + reads[c];
                for (int k = 0; k < KINDS; k++) {
                    h = 31 * h + quick[c * KINDS + k];
                }
                h = 31 * h + barred[c];
                h = 31 * h + lot[c];
            }
            for (int s = 0; s < slips; s++) {
                h = 31 * h + lies[s];
                h = 31 * h + kind[s];
                h = 31 * h + spare[s];
                h = 31 * h + mistaken[s];
            }
            for (int l = 0; l < LOTS; l++) {
                for (int i = 0; i < rowSize[l]; i++) {
                    h = 31 * h + row[l * ROW + i];
                }
            }
            return h;
        }
    }

    /** What stays when a HOUSE is told anew: NUMBERS and REPORTS. */
    private static final class Notes {
        final int[] number = {4, 30, 1, 0, 0};
        int reports;
        final int[] kind = new int[REPORTS];
        final int[] minutes = new int[REPORTS];

        private static final int[] LEAST = {1, 0, 0, 0, 0};
        private static final int[] GREATEST = {6, 200, 10, 9, 9};
        private static final int LONGEST_REPORT = 99;

        void copy(Notes o) {
            reports = o.reports;
            System.arraycopy(o.number, 0, number, 0, NUMBERS);
            System.arraycopy(o.kind, 0, kind, 0, REPORTS);
            System.arraycopy(o.minutes, 0, minutes, 0, REPORTS);
        }

        int setNumber(int what, int v) {
            if (!within(what, NUMBERS) || v < LEAST[what] || v > GREATEST[what]) {
                return BAD;
            }
            int was = number[what];
            number[what] = v;
            return was;
        }

        int addReport(int ofKind, int took) {
            if (!within(ofKind, KINDS) || took < 1 || took > LONGEST_REPORT) {
                return BAD;
            }
            if (reports >= REPORTS) {
                return FULL;
            }
            kind[reports] = ofKind;
            minutes[reports] = took;
            reports++;
            return reports;
        }

        long digestOnto(long start) {
            long h = start;
            for (int i = 0; i < NUMBERS; i++) {
                h = 31 * h + number[i];
            }
            for (int i = 0; i < reports; i++) {
                h = 31 * h + kind[i];
                h = 31 * h + minutes[i];
            }
            return h;
        }
    }

    /** THE TEXT, and the ITEMS that were read from it. */
    private static final class Told {
        private static final int PLACE = 0;
        private static final int WAY = 1;
        private static final int SEES = 2;
        private static final int CHILD = 3;
        private static final int BAR = 4;
        private static final int JOIN = 5;
        private static final int SLIP = 6;
        private static final int SPARE = 7;
        private static final int MEANS = 8;
        private static final int IN_ROW = 9;
        private static final int[] NUMBERS_OF = {0, 3, 2, 5, 2, 2, 2, 1, 2, 2};
        private static final int MOST_NUMBERS = 5;
        /** The shortest ITEM is place; with its 6 bytes. */
        private static final int MOST_ITEMS = BYTES / 6;
        private static final int MOST_FIGURES = 3;
        private static final int BLANK = 32;

        final int[] text = new int[BYTES];
        int length;
        int items;
        private final int[] item = new int[MOST_ITEMS];
        private final int[] number = new int[MOST_ITEMS * MOST_NUMBERS];
        private int at;

        int addBytes(long v, int n) {
            if (n < 1 || n > 8) {
                return BAD;
            }
            if (length + n > BYTES) {
                return FULL;
            }
            for (int i = n - 1; i >= 0; i--) {
                text[length] = (int) (v >>> 8 * i & 255);
                length++;
            }
            return length;
        }

        int empty() {
            int had = length;
            length = 0;
            return had;
        }

        /** Reads the ITEMS; the place of the FAULT, or NONE. */
        int findFault() {
            items = 0;
            at = 0;
            for (int turn = 0; turn <= MOST_ITEMS; turn++) {
                skipBlanks();
                if (at >= length) {
                    return NONE;
                }
                if (!readItem()) {
                    return at;
                }
            }
            return NONE;
        }

        /** When it answers false, at is where the FAULT is. */
        private boolean readItem() {
            int end = endOfRun('a', 'z');
            int kind = kindTo(end);
            if (kind == NONE || items >= MOST_ITEMS) {
                return false;
            }
            at = end;
            for (int i = 0; i < NUMBERS_OF[kind]; i++) {
                skipBlanks();
                end = endOfRun('0', '9');
                if (end == at || end > at + MOST_FIGURES) {
                    return false;
                }
                number[items * MOST_NUMBERS + i] = valueTo(end);
                at = end;
            }
            skipBlanks();
            if (at >= length || text[at] != ';') {
                return false;
            }
            at++;
            item[items] = kind;
            items++;
            return true;
        }

        private void skipBlanks() {
            while (at < length && text[at] == BLANK) {
                at++;
            }
        }

        private int endOfRun(int least, int greatest) {
            int end = at;
            while (end < length && text[end] >= least && text[end] <= greatest) {
                end++;
            }
            return end;
        }

        private int valueTo(int end) {
            int value = 0;
            for (int i = at; i < end; i++) {
                value = value * 10 + text[i] - '0';
            }
            return value;
        }

        private int kindTo(int end) {
            if (spells(end, "place")) return PLACE;
            if (spells(end, "way")) return WAY;
            if (spells(end, "sees")) return SEES;
            if (spells(end, "child")) return CHILD;
            if (spells(end, "bar")) return BAR;
            if (spells(end, "join")) return JOIN;
            if (spells(end, "slip")) return SLIP;
            if (spells(end, "spare")) return SPARE;
            if (spells(end, "means")) return MEANS;
            if (spells(end, "row")) return IN_ROW;
            return NONE;
        }

        private boolean spells(int end, String word) {
            if (end - at != word.length()) {
                return false;
            }
            for (int i = 0; i < word.length(); i++) {
                if (text[at + i] != word.charAt(i)) {
                    return false;
                }
            }
            return true;
        }

        /** Does to a HOUSE what an ITEM tells; answers as its call does. */
        int tell(House house, int i) {
            if (!within(i, items)) {
                return BAD;
            }
            int n = i * MOST_NUMBERS;
            int a = number[n];
            int b = number[n + 1];
            int c = number[n + 2];
            switch (item[i]) {
                case PLACE: return house.addPlace();
                case WAY: return house.setWay(a, b, c);
                case SEES: return house.addSight(a, b);
                case CHILD: return house.addChild(a, b, c, number[n + 3], number[n + 4]);
                case BAR: return house.addBar(a, b);
                case JOIN: return house.setLot(a, b);
                case SLIP: return house.addSlip(a, b);
                case SPARE: return house.setSpare(a);
                case MEANS: return house.addMistaken(a, b);
                case IN_ROW: return house.addToRow(a, b);
                default: return BAD;
            }
        }
    }

    /** WALKS, and the legs of a HUNT: from where a SLIP is read to where it leads, mistakes too. */
    private static final class Walks {
        private static final int FAR = 10000;
        private static final int UNKNOWN = -2;

        private final House house;
        private final int[] minutes = new int[PLACES * PLACES];
        /** The PLACE behind the first one on a PATH. */
        private final int[] step = new int[PLACES * PLACES];
        private final int[] leg = new int[SLIPS * PLACES * PLACES];
        private final int[] trail = new int[SLIPS * PLACES * PLACES];

        Walks(House house) {
            this.house = house;
        }

        void measure() {
            startWithWays();
            shortenByRounds();
            chooseSteps();
            Arrays.fill(leg, UNKNOWN);
        }

        private void startWithWays() {
            for (int a = 0; a < house.places; a++) {
                for (int b = 0; b < house.places; b++) {
                    int way = house.way[a * PLACES + b];
                    minutes[a * PLACES + b] = a == b ? 0 : way > 0 ? way : FAR;
                }
            }
        }

        private void shortenByRounds() {
            for (int via = 0; via < house.places; via++) {
                for (int a = 0; a < house.places; a++) {
                    for (int b = 0; b < house.places; b++) {
                        int round = minutes[a * PLACES + via] + minutes[via * PLACES + b];
                        minutes[a * PLACES + b] = Math.min(round, minutes[a * PLACES + b]);
                    }
                }
            }
        }

        private void chooseSteps() {
            for (int a = 0; a < house.places; a++) {
                for (int b = 0; b < house.places; b++) {
                    step[a * PLACES + b] = b;
                    // From the last on: what stays is the least, as the first PATH asks.
                    for (int p = house.places - 1; p >= 0; p--) {
                        int way = house.way[a * PLACES + p];
                        if (way > 0 && way + minutes[p * PLACES + b] == minutes[a * PLACES + b]) {
                            step[a * PLACES + b] = p;
                        }
                    }
                }
            }
        }

        int between(int a, int b) {
            if (!house.hasPlace(a) || !house.hasPlace(b) || minutes[a * PLACES + b] >= FAR) {
                return NONE;
            }
            return minutes[a * PLACES + b];
        }

        /** The minutes from where a SLIP is read to where the next one lies; NONE: no WALK. */
        int leg(int slip, int start, int goal) {
            int key = knownLeg(slip, start, goal);
            return key == NONE ? NONE : leg[key];
        }

        /** The PLACES (bits) of the PATHS of such a leg. */
        int passed(int slip, int start, int goal) {
            int key = knownLeg(slip, start, goal);
            return key == NONE ? 0 : trail[key];
        }

        private int knownLeg(int slip, int start, int goal) {
            if (!within(slip, house.slips) || !house.hasPlace(start) || !house.hasPlace(goal)) {
                return NONE;
            }
            int key = (slip * PLACES + start) * PLACES + goal;
            if (leg[key] == UNKNOWN) {
                goAlong(key, start, house.mistaken[slip] | 1 << goal, goal);
            }
            return key;
        }

        private void goAlong(int key, int start, int meant, int goal) {
            int here = start;
            int open = meant;
            int took = 0;
            leg[key] = NONE;
            trail[key] = 1 << start;
            for (int tries = 0; tries < PLACES; tries++) {
                int next = nearest(here, open);
                if (next == NONE) {
                    return;
                }
                took += minutes[here * PLACES + next];
                trail[key] |= path(here, next);
                open &= ~(1 << next);
                here = next;
                if (here == goal) {
                    leg[key] = took;
                    return;
                }
            }
        }

        private int nearest(int here, int open) {
            int best = NONE;
            int least = FAR;
            for (int p = 0; p < house.places; p++) {
                if ((open >> p & 1) == 1 && minutes[here * PLACES + p] < least) {
                    best = p;
                    least = minutes[here * PLACES + p];
                }
            }
            return best;
        }

        private int path(int start, int goal) {
            int here = start;
            int bits = 1 << start;
            for (int steps = 0; steps < PLACES && here != goal; steps++) {
                here = step[here * PLACES + goal];
                bits |= 1 << here;
            }
            return bits;
        }
    }

    /** A HUNT laid out: where and when its SLIPS are read. */
    private static final class Hunt {
        private final House house;
        private final Notes notes;
        private final Walks walks;
        int lot;
        int size;
        final int[] slip = new int[ROW];
        final int[] at = new int[ROW];
        /** Of one minute, in millionths: that none has it. */
        final int[] missed = new int[ROW];
        /** Of the minute that was weighed last, in millionths: that it is this CHILD who GUESSED it. */
        final int[] guessing = new int[CHILDREN];
        final int[] soonest = new int[ROW];
        final int[] latest = new int[ROW];
        /** The minutes of all WALKS. */
        int walked;
        /** The least minutes of all riddles. */
        int least;

        Hunt(House house, Notes notes, Walks walks) {
            this.house = house;
            this.notes = notes;
            this.walks = walks;
        }

        void take(int ofLot) {
            lot = ofLot;
            size = within(ofLot, LOTS) ? house.rowSize[ofLot] : 0;
            for (int i = 0; i < size; i++) {
                slip[i] = house.row[ofLot * ROW + i];
            }
        }

        /** False: there is no such HUNT. */
        boolean lay() {
            int cake = notes.number[CAKE];
            int here = notes.number[START];
            if (size == 0 || !house.hasPlace(here) || !house.hasPlace(cake)) {
                return false;
            }
            walked = 0;
            least = 0;
            for (int i = 0; i < size; i++) {
                layRiddle(i, here);
                int next = i + 1 < size ? house.lies[slip[i + 1]] : cake;
                int leg = walks.leg(slip[i], here, next);
                if (leg == NONE) {
                    return false;
                }
                walked += leg;
                here = next;
            }
            return true;
        }

        private void layRiddle(int i, int here) {
            int help = notes.number[HELP];
            at[i] = here;
            missed[i] = weigh(i, house.kind[slip[i]]);
            soonest[i] = walked + least;
            latest[i] = walked + (i + 1) * help;
            least += missed[i] < ALL ? 1 : help;
        }

        /** One minute at place i of the ROW, if the KIND there were this one: that none has it. */
        int weigh(int i, int kind) {
            int none = ALL;
            for (int c = 0; c < CHILDREN; c++) {
                int quick = house.quickAt(c, lot, kind, at[i]);
                guessing[c] = 0;
                if (quick > 0) {
                    // No part is lost: each CHILD uses up one of the six tens of a million.
                    int tenth = none / 10;
                    guessing[c] = tenth * quick;
                    none = tenth * (10 - quick);
                }
            }
            return none;
        }

        int meetings(Hunt o) {
            int pairs = 0;
            for (int i = 0; i < size; i++) {
                for (int j = 0; j < o.size; j++) {
                    if (at[i] == o.at[j] && soonest[i] <= o.latest[j] && o.soonest[j] <= latest[i]) {
                        pairs++;
                    }
                }
            }
            return pairs;
        }

        /** The first of all orders of the SLIPS. */
        void sortSlips() {
            for (int i = 1; i < size; i++) {
                for (int j = i; j > 0 && slip[j - 1] > slip[j]; j--) {
                    exchange(j - 1, j);
                }
            }
        }

        /** The next order of the SLIPS; false: that was the last. */
        boolean nextOrder() {
            int rise = size - 2;
            while (rise >= 0 && slip[rise] > slip[rise + 1]) {
                rise--;
            }
            if (rise < 0) {
                return false;
            }
            int next = size - 1;
            while (next > rise + 1 && slip[next] < slip[rise]) {
                next--;
            }
            exchange(rise, next);
            for (int i = rise + 1, j = size - 1; i < j; i++, j--) {
                exchange(i, j);
            }
            return true;
        }

        private void exchange(int i, int j) {
            int was = slip[i];
            slip[i] = slip[j];
            slip[j] = was;
        }
    }

    /** Means, exactly: whole numbers of a small unit, one over 10 to the power tens. */
    private static final class Means {
        private final House house;
        private final Notes notes;
        int tens;
        /** One minute. */
        final Big unit = new Big();
        final Big goal = new Big();
        private final Big power = new Big();
        private final Big riddle = new Big();
        private final Big guessed = new Big();
        private final Big most = new Big();

        Means(House house, Notes notes) {
            this.house = house;
            this.notes = notes;
        }

        void begin() {
            int help = notes.number[HELP];
            tens = TENS_OF_ALL * (help - 1);
            unit.set(1);
            for (int m = 1; m < help; m++) {
                unit.times(ALL);
            }
            goal.set(0);
            goal.addTimes(unit, notes.number[GOAL]);
        }

        /** The minutes of a riddle: each one counts as often as none had it ahead of it. */
        void ofRiddle(Big mean, int missed) {
            mean.set(1);
            power.set(1);
            for (int m = 1; m < notes.number[HELP]; m++) {
                power.times(missed);
                mean.times(ALL);
                mean.addTimes(power, 1);
            }
        }

        void ofRiddles(Big mean, Hunt hunt) {
            mean.set(0);
            for (int i = 0; i < hunt.size; i++) {
                ofRiddle(riddle, hunt.missed[i]);
                mean.addTimes(riddle, 1);
            }
        }

        void ofLength(Big mean, Hunt hunt) {
            ofRiddles(mean, hunt);
            mean.addTimes(unit, hunt.walked);
        }

        /** How many a CHILD has, in millionths of the unit. */
        void ofGuessed(Big mean, Hunt hunt, int child) {
            mean.set(0);
            if (!within(child, CHILDREN)) {
                return;
            }
            for (int i = 0; i < hunt.size; i++) {
                ofRiddle(riddle, hunt.weigh(i, house.kind[hunt.slip[i]]));
                mean.addTimes(riddle, hunt.guessing[child]);
            }
        }

        /** The most less the least that CHILDREN of the LOT have, in millionths of the unit. */
        void ofUnfairness(Big mean, Hunt hunt) {
            boolean any = false;
            most.set(0);
            mean.set(0);
            for (int c = 0; c < house.children; c++) {
                if (house.lot[c] == hunt.lot) {
                    ofGuessed(guessed, hunt, c);
                    if (!any || guessed.compare(most) > 0) {
                        most.copy(guessed);
                    }
                    if (!any || guessed.compare(mean) < 0) {
                        mean.copy(guessed);
                    }
                    any = true;
                }
            }
            mean.setDifference(most, mean);
        }
    }

    /** How likely each LENGTH is: whole numbers of one over 10 to the power tens. */
    private static final class Spread {
        static final int MOST = ROW * MOST_HELP;

        int tens;
        private int most;
        private Big[] now = new Big[MOST + 1];
        private Big[] next = new Big[MOST + 1];
        private final Big[] weight = new Big[MOST_HELP + 1];
        private final Big power = new Big();

        Spread() {
            for (int i = 0; i <= MOST; i++) {
                now[i] = new Big();
                next[i] = new Big();
            }
            for (int i = 0; i <= MOST_HELP; i++) {
                weight[i] = new Big();
            }
        }

        /** The minutes of all riddles of a HUNT, less the one left out (NONE: of all). */
        void ofHunt(Hunt hunt, int leftOut, int help) {
            most = 0;
            tens = 0;
            now[0].set(1);
            for (int i = 0; i < hunt.size; i++) {
                if (i != leftOut) {
                    addRiddle(hunt.missed[i], help);
                }
            }
        }

        private void addRiddle(int missed, int help) {
            if (help < 1 || help > MOST_HELP || most + help > MOST) {
                return;
            }
            weigh(missed, help);
            for (int t = 0; t <= most + help; t++) {
                next[t].set(0);
            }
            for (int t = 0; t <= most; t++) {
                for (int m = 1; m <= help; m++) {
                    next[t + m].addProduct(now[t], weight[m]);
                }
            }
            Big[] was = now;
            now = next;
            next = was;
            most += help;
            tens += TENS_OF_ALL * (help - 1);
        }

        /** How likely it is that a riddle ends with each minute. */
        private void weigh(int missed, int help) {
            power.set(1);
            for (int m = 1; m < help; m++) {
                weight[m].copy(power);
                weight[m].times(ALL - missed);
                for (int rest = m + 1; rest < help; rest++) {
                    weight[m].times(ALL);
                }
                power.times(missed);
            }
            weight[help].copy(power);
        }

        /** The chance that the riddles take so many minutes, both ends too. */
        void gather(Big sum, int least, int greatest) {
            sum.set(0);
            for (int t = Math.max(least, 0); t <= Math.min(greatest, most); t++) {
                sum.addTimes(now[t], 1);
            }
        }
    }

    /** The search for the best of all orders of a ROW. */
    private static final class Orders {
        private static final int ORDERS = 720;

        private final Means means;
        final int[] best = new int[ROW];
        /** How many MEET in the best order. */
        int fewest;
        /** The mean LENGTH of the best order. */
        final Big length = new Big();
        private final Big riddles = new Big();
        private final Big now = new Big();
        private final Big far = new Big();
        private final Big least = new Big();

        Orders(Means means) {
            this.means = means;
        }

        /** ORDER; false: none can be walked. */
        boolean findNearest(Hunt hunt) {
            boolean found = false;
            int first = NONE;
            hunt.sortSlips();
            for (int turn = 0; turn < ORDERS; turn++) {
                if (hunt.lay()) {
                    // Only the first SLIP is not read where it lies: behind it the riddles stay alike.
                    if (hunt.slip[0] != first) {
                        first = hunt.slip[0];
                        means.ofRiddles(riddles, hunt);
                    }
                    now.copy(riddles);
                    now.addTimes(means.unit, hunt.walked);
                    far.setDifference(now, means.goal);
                    if (!found || far.compare(least) < 0) {
                        found = true;
                        least.copy(far);
                        length.copy(now);
                        keep(hunt);
                    }
                }
                if (!hunt.nextOrder()) {
                    break;
                }
            }
            return found;
        }

        /** APART. */
        void findApart(Hunt hunt, Hunt fixed) {
            boolean found = false;
            fewest = 0;
            hunt.sortSlips();
            for (int turn = 0; turn < ORDERS; turn++) {
                if (hunt.lay()) {
                    int meetings = hunt.meetings(fixed);
                    if (!found || meetings < fewest) {
                        found = true;
                        fewest = meetings;
                        keep(hunt);
                    }
                }
                if (!hunt.nextOrder()) {
                    break;
                }
            }
        }

        private void keep(Hunt hunt) {
            for (int i = 0; i < hunt.size; i++) {
                best[i] = hunt.slip[i];
            }
        }
    }

    /** The search for the best of all KINDS of a ROW's SLIPS. */
    private static final class Choice {
        private static final int CHOICES = 4096;

        private final House house;
        private final Means means;
        final int[] best = new int[ROW];
        final Big bestLeast = new Big();
        private final Big bestFar = new Big();
        private final Big far = new Big();
        private final int[] now = new int[ROW];
        /** By place and KIND: the mean minutes, and the millionths of each CHILD in a minute. */
        private final Big[] minutes = new Big[ROW * KINDS];
        private final int[] guessing = new int[ROW * KINDS * CHILDREN];
        /** Sums over the places of the ROW ahead of one. */
        private final Big[] length = new Big[ROW + 1];
        private final Big[] guessed = new Big[(ROW + 1) * CHILDREN];
        private final Big nothing = new Big();

        Choice(House house, Means means) {
            this.house = house;
            this.means = means;
            for (int i = 0; i < ROW * KINDS; i++) {
                minutes[i] = new Big();
            }
            for (int i = 0; i <= ROW; i++) {
                length[i] = new Big();
            }
            for (int i = 0; i < (ROW + 1) * CHILDREN; i++) {
                guessed[i] = new Big();
            }
        }

        void find(Hunt hunt) {
            prepare(hunt);
            int changed = 0;
            for (int turn = 0; turn < CHOICES; turn++) {
                for (int i = changed; i < hunt.size; i++) {
                    addPlace(i);
                }
                judge(hunt, turn == 0);
                changed = nextChoice(hunt.size);
                if (changed == NONE) {
                    break;
                }
            }
        }

        private void prepare(Hunt hunt) {
            for (int i = 0; i < hunt.size; i++) {
                now[i] = 0;
                for (int k = 0; k < KINDS; k++) {
                    int key = i * KINDS + k;
                    means.ofRiddle(minutes[key], hunt.weigh(i, k));
                    for (int c = 0; c < CHILDREN; c++) {
                        guessing[key * CHILDREN + c] = hunt.guessing[c];
                    }
                }
            }
            // What the CHILDREN have ahead of the first place is never written: it stays 0.
            length[0].set(0);
            length[0].addTimes(means.unit, hunt.walked);
        }

        private void addPlace(int i) {
            int key = i * KINDS + now[i];
            length[i + 1].copy(length[i]);
            length[i + 1].addTimes(minutes[key], 1);
            for (int c = 0; c < house.children; c++) {
                Big sum = guessed[(i + 1) * CHILDREN + c];
                sum.copy(guessed[i * CHILDREN + c]);
                sum.addTimes(minutes[key], guessing[key * CHILDREN + c]);
            }
        }

        private void judge(Hunt hunt, boolean isFirst) {
            Big least = leastGuessed(hunt);
            int better = isFirst ? 1 : least.compare(bestLeast);
            if (better < 0) {
                return;
            }
            far.setDifference(length[hunt.size], means.goal);
            if (better > 0 || far.compare(bestFar) < 0) {
                bestLeast.copy(least);
                bestFar.copy(far);
                for (int i = 0; i < hunt.size; i++) {
                    best[i] = now[i];
                }
            }
        }

        private Big leastGuessed(Hunt hunt) {
            boolean any = false;
            Big least = nothing;
            for (int c = 0; c < house.children; c++) {
                Big sum = guessed[hunt.size * CHILDREN + c];
                if (house.lot[c] == hunt.lot && (!any || sum.compare(least) < 0)) {
                    least = sum;
                    any = true;
                }
            }
            return least;
        }

        /** The first place that is not as it was; NONE: that was the last choice. */
        private int nextChoice(int size) {
            for (int i = size - 1; i >= 0; i--) {
                if (now[i] + 1 < KINDS) {
                    now[i]++;
                    return i;
                }
                now[i] = 0;
            }
            return NONE;
        }
    }

    /** THE FRACTION. */
    private static final class Fraction {
        final Big above = new Big();
        final Big below = new Big();

        Fraction() {
            below.set(1);
        }

        /** So many parts of 10 to the power tens. */
        void set(Big parts, int tens) {
            above.copy(parts);
            below.set(1);
            if (above.used > 0) {
                reduce(2, tens);
                reduce(5, tens);
            }
        }

        private void reduce(int prime, int times) {
            for (int i = 0; i < times; i++) {
                if (above.rest(prime) == 0) {
                    above.divide(prime);
                } else {
                    below.times(prime);
                }
            }
        }

        void setRatio(int parts, int whole) {
            int common = 1;
            for (int d = 2; d <= whole; d++) {
                if (parts % d == 0 && whole % d == 0) {
                    common = d;
                }
            }
            above.set(parts / common);
            below.set(whole / common);
        }

        int signOrSize(int what) {
            if (what == 0) {
                return above.used > 0 ? 1 : 0;
            }
            return what == 1 ? above.used : below.used;
        }

        long digestOnto(long start) {
            long h = start;
            for (int what = 0; what < 3; what++) {
                h = 31 * h + signOrSize(what);
            }
            return below.digestOnto(above.digestOnto(h));
        }
    }

    /** A whole number from 0 on, in limbs, the lowest first; above those that are used all are 0. */
    private static final class Big {
        /** Chances of six riddles are parts of 10 to the power 180: that takes 20 limbs. */
        private static final int LIMBS = 24;
        private static final int BITS = 30;
        private static final int MASK = (1 << BITS) - 1;

        final int[] limb = new int[LIMBS];
        int used;

        void set(int v) {
            for (int i = 0; i < used; i++) {
                limb[i] = 0;
            }
            limb[0] = v & MASK;
            trim(1);
        }

        void copy(Big o) {
            System.arraycopy(o.limb, 0, limb, 0, Math.max(used, o.used));
            used = o.used;
        }

        void times(int m) {
            long carry = 0;
            int i = 0;
            for (; i < LIMBS && (i < used || carry > 0); i++) {
                carry += (long) limb[i] * m;
                limb[i] = (int) (carry & MASK);
                carry >>= BITS;
            }
            trim(i);
        }

        void addTimes(Big a, int m) {
            long carry = 0;
            int top = Math.max(used, a.used);
            int i = 0;
            for (; i < LIMBS && (i < top || carry > 0); i++) {
                carry += limb[i] + (long) a.limb[i] * m;
                limb[i] = (int) (carry & MASK);
                carry >>= BITS;
            }
            trim(i);
        }

        void addProduct(Big a, Big b) {
            int top = used;
            for (int i = 0; i < a.used; i++) {
                long carry = 0;
                int j = 0;
                for (; i + j < LIMBS && (j < b.used || carry > 0); j++) {
                    carry += limb[i + j] + (long) a.limb[i] * b.limb[j];
                    limb[i + j] = (int) (carry & MASK);
                    carry >>= BITS;
                }
                top = Math.max(top, i + j);
            }
            trim(top);
        }

        /** The greater of two numbers less the other one. */
        void setDifference(Big a, Big b) {
            boolean turned = a.compare(b) < 0;
            Big more = turned ? b : a;
            Big less = turned ? a : b;
            int top = Math.max(used, more.used);
            int borrow = 0;
            for (int i = 0; i < top; i++) {
                int left = more.limb[i] - less.limb[i] - borrow;
                borrow = left < 0 ? 1 : 0;
                limb[i] = left & MASK;
            }
            trim(top);
        }

        int compare(Big o) {
            for (int i = Math.max(used, o.used) - 1; i >= 0; i--) {
                if (limb[i] != o.limb[i]) {
                    return limb[i] < o.limb[i] ? -1 : 1;
                }
            }
            return 0;
        }

        /** What is left over when it is divided; 0 for a divisor that is none. */
        int rest(int divisor) {
            long left = 0;
            for (int i = used - 1; i >= 0 && divisor > 0; i--) {
                left = (left << BITS | limb[i]) % divisor;
            }
            return (int) left;
        }

        void divide(int divisor) {
            long left = 0;
            for (int i = used - 1; i >= 0 && divisor > 0; i--) {
                left = left << BITS | limb[i];
                limb[i] = (int) (left / divisor);
                left %= divisor;
            }
            trim(used);
        }

        private void trim(int top) {
            used = Math.min(top, LIMBS);
            for (int i = used; i > 0 && limb[i - 1] == 0; i--) {
                used = i - 1;
            }
        }

        long digestOnto(long start) {
            long h = start;
            for (int i = 0; i < used; i++) {
                h = 31 * h + limb[i];
            }
            return h;
        }
    }
}
