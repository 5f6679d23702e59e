import java.math.BigInteger;
import java.util.ArrayList;
import java.util.Arrays;
import java.util.HashMap;
import java.util.List;
import java.util.Map;
import java.util.TreeMap;
import java.util.regex.Matcher;
import java.util.regex.Pattern;

/**
 * The document once more, as slow and plain as can be, to hold SlipHunt against: rationals of BigIntegers, all
 * rows of places tried for a walk, all subsets of children tried for a minute, each hunt gone through by itself.
 */
final class SlowHunt {
    static final int NONE = -1, BAD = -2, NO = -3, FULL = -4;

    /** An exact number. */
    record Exact(BigInteger above, BigInteger below) {
        static final Exact ZERO = of(0, 1);
        static final Exact ONE = of(1, 1);

        static Exact of(long above, long below) {
            return lowest(BigInteger.valueOf(above), BigInteger.valueOf(below));
        }

        static Exact lowest(BigInteger above, BigInteger below) {
            BigInteger g = above.gcd(below);
            return new Exact(above.divide(g), below.divide(g));
        }

        Exact plus(Exact o) {
            return lowest(above.multiply(o.below).add(o.above.multiply(below)), below.multiply(o.below));
        }

        Exact times(Exact o) {
            return lowest(above.multiply(o.above), below.multiply(o.below));
        }

        Exact minus(Exact o) {
            return plus(new Exact(o.above.negate(), o.below));
        }

        Exact size() {
            return new Exact(above.abs(), below);
        }

        int compare(Exact o) {
            return above.multiply(o.below).compareTo(o.above.multiply(below));
        }
    }

    static final class Child {
        boolean reads;
        int[] quick;
        boolean[] barred = new boolean[10];
        int lot = NONE;

        Child copy() {
            Child c = new Child();
            c.reads = reads;
            c.quick = quick.clone();
            c.barred = barred.clone();
            c.lot = lot;
            return c;
        }
    }

    static final class Slip {
        int place;
        int kind;
        boolean spare;
        boolean[] mistaken = new boolean[10];

        Slip copy() {
            Slip s = new Slip();
            s.place = place;
            s.kind = kind;
            s.spare = spare;
            s.mistaken = mistaken.clone();
            return s;
        }
    }

    static final class State {
        int places;
        int[][] way = new int[10][10];
        boolean[][] seen = new boolean[10][10];
        List<Child> children = new ArrayList<>();
        List<Slip> slips = new ArrayList<>();
        List<List<Integer>> rows = new ArrayList<>(List.of(new ArrayList<>(), new ArrayList<>()));
        int[] number = {4, 30, 1, 0, 0};
        List<int[]> reports = new ArrayList<>();

        State copy() {
            State s = new State();
            s.places = places;
            for (int i = 0; i < 10; i++) {
                s.way[i] = way[i].clone();
                s.seen[i] = seen[i].clone();
            }
            children.forEach(c -> s.children.add(c.copy()));
            slips.forEach(c -> s.slips.add(c.copy()));
            for (int l = 0; l < 2; l++) {
                s.rows.get(l).addAll(rows.get(l));
            }
            s.number = number.clone();
            s.reports.addAll(reports);
            return s;
        }
    }

    State state = new State();
    State[] images = new State[2];
    List<Integer> text = new ArrayList<>();
    int[] refused = new int[3];
    Exact fraction = Exact.ZERO;

    private int tell(int answer) {
        if (answer <= BAD && answer >= FULL) {
            refused[-2 - answer]++;
        }
        return answer;
    }

    // ---- a house

    private boolean isPlace(int p) {
        return 0 <= p && p < state.places;
    }

    private boolean isSlip(int s) {
        return 0 <= s && s < state.slips.size();
    }

    private boolean isChild(int c) {
        return 0 <= c && c < state.children.size();
    }

    private static boolean in(int v, int least, int most) {
        return least <= v && v <= most;
    }

    int place() {
        return tell(place0());
    }

    private int place0() {
        return state.places == 10 ? FULL : state.places++;
    }

    int way(int a, int b, int n) {
        return tell(way0(a, b, n));
    }

    private int way0(int a, int b, int n) {
        if (!isPlace(a) || !isPlace(b) || a == b || !in(n, 0, 9)) return BAD;
        int was = state.way[a][b];
        state.way[a][b] = state.way[b][a] = n;
        return was;
    }

    int sees(int a, int b) {
        return tell(sees0(a, b));
    }

    private int sees0(int a, int b) {
        if (!isPlace(a) || !isPlace(b) || a == b) return BAD;
        if (state.seen[a][b]) return NO;
        state.seen[a][b] = true;
        return 1;
    }

    int child(boolean reads, int... quick) {
        return tell(child0(reads, quick));
    }

    private int child0(boolean reads, int... quick) {
        for (int q : quick) {
            if (!in(q, 0, 9)) return BAD;
        }
        if (state.children.size() == 6) return FULL;
        Child c = new Child();
        c.reads = reads;
        c.quick = quick.clone();
        state.children.add(c);
        return state.children.size() - 1;
    }

    int bar(int child, int place) {
        return tell(bar0(child, place));
    }

    private int bar0(int child, int place) {
        if (!isChild(child) || !isPlace(place)) return BAD;
        if (state.children.get(child).barred[place]) return NO;
        state.children.get(child).barred[place] = true;
        return 1;
    }

    int join(int child, int lot) {
        int was = tell(join0(child, lot));
        return was == BAD ? -10 : was;
    }

    private int join0(int child, int lot) {
        if (!isChild(child) || !in(lot, -1, 1)) return BAD;
        int was = state.children.get(child).lot;
        state.children.get(child).lot = lot;
        return was;
    }

    int slip(int place, int kind) {
        return tell(slip0(place, kind));
    }

    private int slip0(int place, int kind) {
        if (!isPlace(place) || !in(kind, 0, 3)) return BAD;
        if (state.slips.size() == 8) return FULL;
        Slip s = new Slip();
        s.place = place;
        s.kind = kind;
        state.slips.add(s);
        return state.slips.size() - 1;
    }

    int spare(int slip) {
        return tell(spare0(slip));
    }

    private int spare0(int slip) {
        if (!isSlip(slip)) return BAD;
        if (state.slips.get(slip).spare) return NO;
        state.slips.get(slip).spare = true;
        return 1;
    }

    int means(int slip, int place) {
        return tell(means0(slip, place));
    }

    private int means0(int slip, int place) {
        if (!isSlip(slip) || !isPlace(place)) return BAD;
        if (state.slips.get(slip).mistaken[place]) return NO;
        state.slips.get(slip).mistaken[place] = true;
        return 1;
    }

    int row(int lot, int slip) {
        return tell(row0(lot, slip));
    }

    private int row0(int lot, int slip) {
        if (!in(lot, 0, 1) || !isSlip(slip)) return BAD;
        List<Integer> row = state.rows.get(lot);
        if (row.contains(slip)) return NO;
        if (row.size() == 6) return FULL;
        row.add(slip);
        return row.size();
    }

    int unrow(int lot) {
        if (!in(lot, 0, 1)) return tell(BAD);
        int had = state.rows.get(lot).size();
        state.rows.get(lot).clear();
        return had;
    }

    int put(int what, int v) {
        int[][] bounds = {{1, 6}, {0, 200}, {0, 10}, {0, 9}, {0, 9}};
        if (!in(what, 0, 4) || !in(v, bounds[what][0], bounds[what][1])) return tell(BAD);
        int was = state.number[what];
        state.number[what] = v;
        return was;
    }

    int type(long v, int n) {
        if (!in(n, 1, 8)) return tell(BAD);
        if (text.size() + n > 300) return tell(FULL);
        byte[] all = new byte[8];
        for (int i = 7; i >= 0; i--, v >>= 8) {
            all[i] = (byte) v;
        }
        for (int i = 8 - n; i < 8; i++) {
            text.add(all[i] & 255);
        }
        return text.size();
    }

    int clear() {
        int had = text.size();
        text.clear();
        return had;
    }

    /** A TOKEN: the place of its first byte, and its letters, or figures, or sign. */
    record Token(int at, String what) {
    }

    /** The TOKENS of THE TEXT; the last one is its end, and a byte that begins none is a TOKEN too. */
    private List<Token> tokens() {
        StringBuilder chars = new StringBuilder();
        text.forEach(b -> chars.append((char) (int) b));
        List<Token> tokens = new ArrayList<>();
        Matcher m = Pattern.compile("[a-z]+|[0-9]+|[^ ]", Pattern.DOTALL).matcher(chars);
        while (m.find()) {
            tokens.add(new Token(m.start(), m.group()));
        }
        tokens.add(new Token(text.size(), ""));
        return tokens;
    }

    int house() {
        List<String> words = List.of("place", "way", "sees", "child", "bar", "join", "slip", "spare", "means", "row");
        int[] numbers = {0, 3, 2, 5, 2, 2, 2, 1, 2, 2};
        List<Token> tokens = tokens();
        List<int[]> items = new ArrayList<>();
        int t = 0;
        while (!tokens.get(t).what.isEmpty()) {
            int kind = words.indexOf(tokens.get(t).what);
            if (kind < 0) return -10 - tokens.get(t).at;
            t++;
            int[] item = new int[7];
            item[0] = kind;
            for (int i = 1; i <= numbers[kind]; i++, t++) {
                if (!tokens.get(t).what.matches("[0-9]{1,3}")) return -10 - tokens.get(t).at;
                item[i] = Integer.parseInt(tokens.get(t).what);
            }
            if (!tokens.get(t).what.equals(";")) return -10 - tokens.get(t).at;
            t++;
            items.add(item);
        }
        State old = state;
        state = new State();
        state.number = old.number;
        state.reports = old.reports;
        for (int i = 0; i < items.size(); i++) {
            int[] n = items.get(i);
            int answer = switch (n[0]) {
                case 0 -> place0();
                case 1 -> way0(n[1], n[2], n[3]);
                case 2 -> sees0(n[1], n[2]);
                case 3 -> n[1] > 1 ? BAD : child0(n[1] == 1, n[2], n[3], n[4], n[5]);
                case 4 -> bar0(n[1], n[2]);
                case 5 -> join0(n[1], n[2]);
                case 6 -> slip0(n[1], n[2]);
                case 7 -> spare0(n[1]);
                case 8 -> means0(n[1], n[2]);
                default -> row0(n[1], n[2]);
            };
            if (answer <= BAD) {
                state = old;
                return -1000 - i;
            }
        }
        return items.size();
    }

    // ---- hunts

    private List<Integer> bestPath;
    private int bestMinutes;

    /** The PATH, or null; its minutes stand in bestMinutes. */
    private List<Integer> path(int a, int b) {
        bestPath = null;
        bestMinutes = Integer.MAX_VALUE;
        List<Integer> row = new ArrayList<>();
        row.add(a);
        tryRows(row, b, 0);
        return bestPath;
    }

    /** All rows of PLACES, in their order: so the first one of the fewest minutes is met first. */
    private void tryRows(List<Integer> row, int b, int minutes) {
        int here = row.get(row.size() - 1);
        if (here == b) {
            if (minutes < bestMinutes) {
                bestMinutes = minutes;
                bestPath = new ArrayList<>(row);
            }
            return;
        }
        for (int p = 0; p < state.places; p++) {
            int n = state.way[here][p];
            if (n > 0 && !row.contains(p) && minutes + n < bestMinutes) {
                row.add(p);
                tryRows(row, b, minutes + n);
                row.remove(row.size() - 1);
            }
        }
    }

    int walk(int a, int b) {
        if (!isPlace(a) || !isPlace(b)) return tell(BAD);
        return path(a, b) == null ? NONE : bestMinutes;
    }

    /** What is gone from a PLACE till the next: its minutes, and the PLACES passed. */
    record Leg(int minutes, boolean[] passed) {
    }

    private Leg leg(int from, boolean[] mistaken, int to) {
        boolean[] open = mistaken.clone();
        open[to] = true;
        boolean[] passed = new boolean[10];
        passed[from] = true;
        int minutes = 0;
        int here = from;
        if (path(from, to) == null) return null;
        while (true) {
            int next = -1;
            int least = Integer.MAX_VALUE;
            for (int p = 0; p < 10; p++) {
                if (open[p] && path(here, p) != null && bestMinutes < least) {
                    next = p;
                    least = bestMinutes;
                }
            }
            for (int p : path(here, next)) {
                passed[p] = true;
            }
            minutes += least;
            open[next] = false;
            here = next;
            if (here == to) return new Leg(minutes, passed);
        }
    }

    /** A HUNT, laid out. */
    static final class Laid {
        List<Slip> slips = new ArrayList<>();
        List<Integer> read = new ArrayList<>();
        List<Leg> legs = new ArrayList<>();
        int walked;
    }

    private Laid lay(List<Integer> row) {
        int here = state.number[3];
        int cake = state.number[4];
        if (row.isEmpty() || !isPlace(here) || !isPlace(cake)) return null;
        Laid laid = new Laid();
        for (int i = 0; i < row.size(); i++) {
            Slip s = state.slips.get(row.get(i));
            int next = i + 1 < row.size() ? state.slips.get(row.get(i + 1)).place : cake;
            Leg leg = leg(here, s.mistaken, next);
            if (leg == null) return null;
            laid.slips.add(s);
            laid.read.add(here);
            laid.legs.add(leg);
            laid.walked += leg.minutes;
            here = next;
        }
        return laid;
    }

    private Laid lay(int lot) {
        return lay(state.rows.get(lot));
    }

    /** Minutes that were gone through already, by who riddles and how QUICK they are. */
    private final Map<List<Integer>, Exact[]> known = new HashMap<>();

    /** One minute: entry c is the chance that CHILD c GUESSED it, entry 6 that none has it. */
    private Exact[] minute(int lot, int kind, int place) {
        List<Integer> who = new ArrayList<>();
        for (int c = 0; c < state.children.size(); c++) {
            Child k = state.children.get(c);
            boolean never = (kind == 0 || kind == 2) && !k.reads || kind == 3 && k.reads;
            if (k.lot == lot && !k.barred[place] && !never) who.add(c);
        }
        List<Integer> key = new ArrayList<>(who);
        who.forEach(c -> key.add(state.children.get(c).quick[kind]));
        return known.computeIfAbsent(key, k -> minuteOf(who, kind));
    }

    private Exact[] minuteOf(List<Integer> who, int kind) {
        Exact[] chance = new Exact[7];
        Arrays.fill(chance, Exact.ZERO);
        for (int set = 0; set < 1 << who.size(); set++) {
            Exact p = Exact.ONE;
            int first = 6;
            for (int i = who.size() - 1; i >= 0; i--) {
                int q = state.children.get(who.get(i)).quick[kind];
                boolean has = (set >> i & 1) == 1;
                p = p.times(Exact.of(has ? q : 10 - q, 10));
                if (has) first = who.get(i);
            }
            chance[first] = chance[first].plus(p);
        }
        return chance;
    }

    int riddles(int lot, int i) {
        if (!in(lot, 0, 1) || !in(i, 0, state.rows.get(lot).size() - 1)) return tell(BAD);
        Laid laid = lay(lot);
        if (laid == null) return tell(NO);
        Exact[] m = minute(lot, laid.slips.get(i).kind, laid.read.get(i));
        fraction = Exact.ONE.minus(m[6]);
        return 1;
    }

    private boolean canBeHad(int lot, Laid laid, int i) {
        return minute(lot, laid.slips.get(i).kind, laid.read.get(i))[6].compare(Exact.ONE) < 0;
    }

    /** LENGTHS and how likely they are. */
    private TreeMap<Integer, Exact> lengths(int lot, Laid laid, int early) {
        TreeMap<Integer, Exact> now = new TreeMap<>();
        now.put(laid.walked, Exact.ONE);
        for (int i = 0; i < laid.slips.size(); i++) {
            int help = i == early ? 1 : state.number[0];
            Exact none = minute(lot, laid.slips.get(i).kind, laid.read.get(i))[6];
            TreeMap<Integer, Exact> next = new TreeMap<>();
            for (int t : now.keySet()) {
                Exact left = now.get(t);
                for (int m = 1; m <= help; m++) {
                    Exact ends = m == help ? left : left.times(Exact.ONE.minus(none));
                    next.merge(t + m, ends, Exact::plus);
                    left = left.times(none);
                }
            }
            now = next;
        }
        return now;
    }

    private Exact meanLength(int lot, Laid laid) {
        Exact mean = Exact.ZERO;
        TreeMap<Integer, Exact> all = lengths(lot, laid, -1);
        for (int t : all.keySet()) {
            mean = mean.plus(Exact.of(t, 1).times(all.get(t)));
        }
        return mean;
    }

    int length(int lot, int what) {
        if (!in(lot, 0, 1) || !in(what, 0, 2)) return tell(BAD);
        Laid laid = lay(lot);
        if (laid == null) return tell(NO);
        if (what == 2) {
            fraction = meanLength(lot, laid);
            return 1;
        }
        int minutes = laid.walked;
        for (int i = 0; i < laid.slips.size(); i++) {
            minutes += what == 0 && canBeHad(lot, laid, i) ? 1 : state.number[0];
        }
        return minutes;
    }

    int ends(int lot, int a, int b) {
        if (!in(lot, 0, 1) || !(0 <= a && a <= b && b <= 999)) return tell(BAD);
        Laid laid = lay(lot);
        if (laid == null) return tell(NO);
        fraction = Exact.ZERO;
        for (Exact p : lengths(lot, laid, -1).subMap(a, true, b, true).values()) {
            fraction = fraction.plus(p);
        }
        return 1;
    }

    private Exact meanGuessed(int lot, Laid laid, int child) {
        Exact mean = Exact.ZERO;
        for (int i = 0; i < laid.slips.size(); i++) {
            Exact[] m = minute(lot, laid.slips.get(i).kind, laid.read.get(i));
            Exact left = Exact.ONE;
            for (int t = 1; t <= state.number[0]; t++) {
                mean = mean.plus(left.times(m[child]));
                left = left.times(m[6]);
            }
        }
        return mean;
    }

    int guessed(int child) {
        if (!isChild(child)) return tell(BAD);
        int lot = state.children.get(child).lot;
        if (lot == NONE || lay(lot) == null) return tell(NO);
        fraction = meanGuessed(lot, lay(lot), child);
        return 1;
    }

    private List<Exact> allGuessed(int lot, Laid laid) {
        List<Exact> all = new ArrayList<>();
        for (int c = 0; c < state.children.size(); c++) {
            if (state.children.get(c).lot == lot) all.add(meanGuessed(lot, laid, c));
        }
        all.sort(Exact::compare);
        return all;
    }

    int fair(int lot) {
        if (!in(lot, 0, 1)) return tell(BAD);
        Laid laid = lay(lot);
        if (laid == null) return tell(NO);
        List<Exact> all = allGuessed(lot, laid);
        fraction = all.isEmpty() ? Exact.ZERO : all.get(all.size() - 1).minus(all.get(0));
        return 1;
    }

    private static void orders(List<Integer> head, List<Integer> rest, List<List<Integer>> all) {
        if (rest.isEmpty()) all.add(new ArrayList<>(head));
        for (int s : rest.stream().sorted().toList()) {
            List<Integer> less = new ArrayList<>(rest);
            less.remove((Integer) s);
            head.add(s);
            orders(head, less, all);
            head.remove(head.size() - 1);
        }
    }

    /** What the last search found. */
    List<Integer> bestOrder;

    int order(int lot, int i) {
        if (!in(lot, 0, 1) || !in(i, 0, 5)) return tell(BAD);
        List<List<Integer>> all = new ArrayList<>();
        orders(new ArrayList<>(), state.rows.get(lot), all);
        List<Integer> best = null;
        Exact mean = null;
        Exact far = null;
        for (List<Integer> row : all) {
            Laid laid = lay(row);
            if (laid == null) continue;
            Exact m = meanLength(lot, laid);
            Exact f = m.minus(Exact.of(state.number[1], 1)).size();
            if (best == null || f.compare(far) < 0) {
                best = row;
                mean = m;
                far = f;
            }
        }
        if (best == null) return tell(NO);
        bestOrder = best;
        fraction = mean;
        return i < best.size() ? best.get(i) : -5;
    }

    /** What the last search found. */
    int[] bestKinds;

    int kinds(int lot, int i) {
        if (!in(lot, 0, 1) || !in(i, 0, 5)) return tell(BAD);
        if (lay(lot) == null) return tell(NO);
        List<Integer> row = state.rows.get(lot);
        State before = state;
        state = state.copy();
        int[] best = null;
        Exact bestLeast = null;
        Exact bestFar = null;
        for (int code = 0; code < Math.pow(4, row.size()); code++) {
            int[] kinds = new int[row.size()];
            for (int k = 0, c = code; k < kinds.length; k++, c /= 4) {
                kinds[kinds.length - 1 - k] = c % 4;
            }
            for (int k = 0; k < kinds.length; k++) {
                state.slips.get(row.get(k)).kind = kinds[k];
            }
            Laid laid = lay(lot);
            List<Exact> guessed = allGuessed(lot, laid);
            Exact least = guessed.isEmpty() ? Exact.ZERO : guessed.get(0);
            int more = best == null ? 1 : least.compare(bestLeast);
            if (more < 0) continue;
            Exact far = meanLength(lot, laid).minus(Exact.of(state.number[1], 1)).size();
            if (more > 0 || more == 0 && far.compare(bestFar) < 0) {
                best = kinds;
                bestLeast = least;
                bestFar = far;
            }
        }
        state = before;
        bestKinds = best;
        fraction = bestLeast;
        return i < best.length ? best[i] : -5;
    }

    private int meet(Laid a, Laid b) {
        int pairs = 0;
        for (int i = 0; i < a.slips.size(); i++) {
            for (int j = 0; j < b.slips.size(); j++) {
                if (!a.read.get(i).equals(b.read.get(j))) continue;
                boolean common = false;
                for (int t = time(0, a, i, false); t <= time(0, a, i, true); t++) {
                    common |= in(t, time(1, b, j, false), time(1, b, j, true));
                }
                if (common) pairs++;
            }
        }
        return pairs;
    }

    private int time(int lot, Laid laid, int i, boolean late) {
        int t = late ? state.number[0] : 0;
        for (int k = 0; k < i; k++) {
            t += laid.legs.get(k).minutes + (!late && canBeHad(lot, laid, k) ? 1 : state.number[0]);
        }
        return t;
    }

    int meet() {
        if (lay(0) == null || lay(1) == null) return tell(NO);
        return meet(lay(0), lay(1));
    }

    int apart(int i) {
        if (!in(i, -1, 5)) {
            tell(BAD);
            return -10;
        }
        if (lay(0) == null || lay(1) == null) {
            tell(NO);
            return -20;
        }
        List<List<Integer>> all = new ArrayList<>();
        orders(new ArrayList<>(), state.rows.get(1), all);
        List<Integer> best = null;
        int fewest = 0;
        for (List<Integer> row : all) {
            Laid laid = lay(row);
            if (laid == null) continue;
            int pairs = meet(lay(0), laid);
            if (best == null || pairs < fewest) {
                best = row;
                fewest = pairs;
            }
        }
        bestOrder = best;
        return i == NONE ? fewest : i < best.size() ? best.get(i) : -5;
    }

    int sooner(int lot) {
        if (!in(lot, 0, 1)) return tell(BAD);
        Laid laid = lay(lot);
        if (laid == null) return tell(NO);
        int best = -1;
        Exact least = null;
        for (int i = 0; i < laid.slips.size(); i++) {
            Exact p = Exact.ZERO;
            for (Exact e : lengths(lot, laid, i).tailMap(state.number[1], false).values()) {
                p = p.plus(e);
            }
            if (best < 0 || p.compare(least) < 0) {
                best = i;
                least = p;
            }
        }
        fraction = least;
        return state.rows.get(lot).get(best);
    }

    // ---- what may go wrong

    /** Whether the CAKE is found when these (bits) are taken. */
    private boolean isFound(int lot, int taken) {
        List<Integer> row = state.rows.get(lot);
        int n = row.size();
        boolean lead = true;
        for (int i = 0; i < n; i++) {
            boolean there = (taken >> i & 1) == 0;
            boolean bridged = i > 0 && (taken >> i - 1 & 1) == 0 && state.slips.get(row.get(i - 1)).spare;
            lead = lead && (there || bridged);
        }
        return lead;
    }

    int hangs(int lot) {
        if (!in(lot, 0, 1)) return tell(BAD);
        int n = state.rows.get(lot).size();
        if (n == 0) return tell(NO);
        int bits = 0;
        for (int i = 1; i < n; i++) {
            if (!isFound(lot, 1 << i)) bits |= 1 << i;
        }
        return bits;
    }

    int bears(int lot) {
        if (!in(lot, 0, 1)) return tell(BAD);
        int n = state.rows.get(lot).size();
        if (n == 0) return tell(NO);
        fraction = Exact.ZERO;
        for (int taken = 0; taken < 1 << n; taken += 2) {
            Exact p = Exact.ONE;
            for (int i = 1; i < n; i++) {
                boolean gone = (taken >> i & 1) == 1;
                p = p.times(Exact.of(gone ? state.number[2] : 10 - state.number[2], 10));
            }
            if (isFound(lot, taken)) fraction = fraction.plus(p);
        }
        return 1;
    }

    int soon(int lot) {
        if (!in(lot, 0, 1)) return tell(BAD);
        Laid laid = lay(lot);
        if (laid == null) return tell(NO);
        int bits = 0;
        for (int i = 0; i < laid.slips.size(); i++) {
            for (int p = 0; p < 10; p++) {
                if (!laid.legs.get(i).passed[p]) continue;
                for (int j = i + 2; j < laid.slips.size(); j++) {
                    int lies = laid.slips.get(j).place;
                    if (lies == p || state.seen[p][lies]) bits |= 1 << j;
                }
            }
        }
        return bits;
    }

    int report(int kind, int minutes) {
        if (!in(kind, 0, 3) || !in(minutes, 1, 99)) return tell(BAD);
        if (state.reports.size() == 20) return tell(FULL);
        state.reports.add(new int[] {kind, minutes});
        return state.reports.size();
    }

    int hard(int kind, int what) {
        if (!in(kind, 0, 3) || !in(what, 0, 2)) return tell(BAD);
        int[] took = state.reports.stream().filter(r -> r[0] == kind).mapToInt(r -> r[1]).sorted().toArray();
        if (took.length == 0) return tell(NO);
        if (what == 0) return took[0];
        if (what == 1) return took[took.length - 1];
        fraction = Exact.of(Arrays.stream(took).sum(), took.length);
        return 1;
    }

    // ---- what there is

    private List<Integer> limbs(int which) {
        BigInteger v = which == 0 ? fraction.above : fraction.below;
        List<Integer> limbs = new ArrayList<>();
        for (; v.signum() > 0; v = v.shiftRight(30)) {
            limbs.add(v.mod(BigInteger.ONE.shiftLeft(30)).intValueExact());
        }
        return limbs;
    }

    int sign(int what) {
        if (!in(what, 0, 2)) return tell(BAD);
        return what == 0 ? fraction.above.signum() : limbs(what - 1).size();
    }

    int limb(int which, int i) {
        if (!in(which, 0, 1) || i < 0) return tell(BAD);
        return i < limbs(which).size() ? limbs(which).get(i) : NONE;
    }

    int image(int i) {
        if (!in(i, 0, 1)) return tell(BAD);
        images[i] = state.copy();
        return 1;
    }

    int from(int i) {
        if (!in(i, 0, 1)) return tell(BAD);
        if (images[i] == null) return tell(NO);
        state = images[i].copy();
        return 1;
    }

    int status(int what) {
        if (!in(what, 0, 2)) {
            tell(BAD);
            return -1;
        }
        return refused[what];
    }

    int count(int what) {
        if (!in(what, 0, 6)) return tell(BAD);
        return counts().get(what);
    }

    private List<Integer> counts() {
        return List.of(state.places, state.children.size(), state.slips.size(), state.rows.get(0).size(),
                state.rows.get(1).size(), state.reports.size(), text.size());
    }

    private static int bits(boolean[] set) {
        int bits = 0;
        for (int i = 0; i < set.length; i++) {
            bits |= set[i] ? 1 << i : 0;
        }
        return bits;
    }

    long digest() {
        List<Integer> all = new ArrayList<>(counts());
        for (int p = 0; p < state.places; p++) {
            for (int q = 0; q < p; q++) {
                all.add(state.way[p][q]);
            }
            all.add(bits(state.seen[p]));
        }
        for (Child c : state.children) {
            all.add(c.reads ? 1 : 0);
            for (int q : c.quick) {
                all.add(q);
            }
            all.add(bits(c.barred));
            all.add(c.lot);
        }
        for (Slip s : state.slips) {
            all.addAll(List.of(s.place, s.kind, s.spare ? 1 : 0, bits(s.mistaken)));
        }
        state.rows.forEach(all::addAll);
        for (int n : state.number) {
            all.add(n);
        }
        for (int[] r : state.reports) {
            all.addAll(List.of(r[0], r[1]));
        }
        all.addAll(List.of(sign(0), sign(1), sign(2)));
        all.addAll(limbs(0));
        all.addAll(limbs(1));
        long h = 577;
        for (int v : all) {
            h = 31 * h + v;
        }
        return h;
    }
}
