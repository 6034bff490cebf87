import java.math.BigInteger;
import java.util.ArrayList;
import java.util.Arrays;
import java.util.List;
import java.util.regex.Matcher;
import java.util.regex.Pattern;

/**
 * The document once more, by trying out everything and with no flow algorithm, as a measure for
 * VouchFlow. Slow, and free to use the whole library.
 */
final class PlainVouchFlow {
    static final int NONE = -1, UNKNOWN = -101, OUTSIDE = -102, STATE = -103, FULL = -104;

    private StringBuilder page = new StringBuilder();
    private int n;
    private int[] bounds = new int[0];
    private int[] kinds = new int[0];
    private boolean[][] v = new boolean[0][0];
    private int reads, added, removed;

    // ---- texts

    int letter(int code) {
        if (code < 32 || code > 126) return OUTSIDE;
        if (page.length() == 110) return FULL;
        page.append((char) code);
        return page.length();
    }

    int blank() {
        int had = page.length();
        page.setLength(0);
        return had;
    }

    private static final Pattern TEXT = Pattern.compile("([1-9]):([0-9]{1,5}):(.*)");
    private static final Pattern PERSON = Pattern.compile("[*!]?((>[0-9]){0,5})");

    static boolean isCircle(String text) {
        Matcher m = TEXT.matcher(text);
        if (!m.matches()) return false;
        int n = Integer.parseInt(m.group(1));
        String[] persons = m.group(3).split(";", -1);
        if (persons.length != n) return false;
        int seeds = 0;
        for (int p = 0; p < n; p++) {
            Matcher one = PERSON.matcher(persons[p]);
            if (!one.matches()) return false;
            if (persons[p].startsWith("*")) seeds++;
            int last = -1;
            for (char c : one.group(1).replace(">", "").toCharArray()) {
                int d = c - '0';
                if (d <= last || d >= n || d == p) return false;
                last = d;
            }
        }
        return seeds <= 5;
    }

    /** Every text with which a circle begins has one of these behind it in some circle. */
    private static boolean canGoOn(String start) {
        List<String> bridges = new ArrayList<>(List.of("", ":", "0:", ":0:", "1:0:"));
        for (int d = 0; d <= 9; d++) bridges.add("" + d);
        for (String bridge : bridges) {
            for (int rest = 0; rest <= 8; rest++) {
                if (isCircle(start + bridge + ";".repeat(rest))) return true;
            }
        }
        return false;
    }

    int fault() {
        for (int i = 0; i < page.length(); i++) {
            if (!canGoOn(page.substring(0, i + 1))) return i;
        }
        return page.length();
    }

    int circle() {
        if (!isCircle(page.toString())) return STATE;
        Matcher m = TEXT.matcher(page);
        m.matches();
        n = Integer.parseInt(m.group(1));
        bounds = m.group(2).chars().map(c -> c - '0').toArray();
        kinds = new int[n];
        v = new boolean[n][n];
        String[] persons = m.group(3).split(";", -1);
        for (int p = 0; p < n; p++) {
            kinds[p] = persons[p].startsWith("*") ? 1 : persons[p].startsWith("!") ? 2 : 0;
            for (char c : persons[p].toCharArray()) if (c >= '0' && c <= '9') v[p][c - '0'] = true;
        }
        page.setLength(0);
        reads++;
        return n;
    }

    String text() {
        StringBuilder b = new StringBuilder().append(n).append(':');
        for (int x : bounds) b.append(x);
        b.append(':');
        for (int p = 0; p < n; p++) {
            if (p > 0) b.append(';');
            b.append(new String[] {"", "*", "!"}[kinds[p]]);
            for (int w = 0; w < n; w++) if (v[p][w]) b.append('>').append(w);
        }
        return b.toString();
    }

    int ink(int place) {
        if (n == 0) return STATE;
        if (place < 0) return UNKNOWN;
        return place < text().length() ? text().charAt(place) : NONE;
    }

    // ---- persons and vouches

    private boolean is(int person) {
        return person >= 0 && person < n;
    }

    private boolean pair(int by, int whom) {
        return is(by) && is(whom) && by != whom;
    }

    private int ofKind(int kind) {
        int set = 0;
        for (int p = 0; p < n; p++) if (kinds[p] == kind) set |= 1 << p;
        return set;
    }

    private int out(int person) {
        int sum = 0;
        for (int w = 0; w < n; w++) if (v[person][w]) sum++;
        return sum;
    }

    private int in(int person) {
        int sum = 0;
        for (int b = 0; b < n; b++) if (v[b][person]) sum++;
        return sum;
    }

    int kind(int person, int kind) {
        if (!is(person)) return UNKNOWN;
        if (kind < 0 || kind > 2) return OUTSIDE;
        int before = kinds[person];
        kinds[person] = kind;
        if (Integer.bitCount(ofKind(1)) > 5) {
            kinds[person] = before;
            return FULL;
        }
        return before;
    }

    int as(int person, int kind) {
        if (!is(person)) return UNKNOWN;
        if (kind < 0 || kind > 2) return OUTSIDE;
        if (kind != 0 && kind != kinds[person]) return NONE;
        return kinds[person];
    }

    int vouch(int by, int whom) {
        if (!pair(by, whom)) return UNKNOWN;
        if (v[by][whom]) return STATE;
        if (out(by) == 5) return FULL;
        v[by][whom] = true;
        added++;
        return out(by);
    }

    int recall(int by, int whom) {
        if (!pair(by, whom)) return UNKNOWN;
        if (!v[by][whom]) return STATE;
        v[by][whom] = false;
        removed++;
        return out(by);
    }

    int bound(int place, int value) {
        if (place < 0 || place >= bounds.length) return UNKNOWN;
        if (value < 0 || value > 9) return OUTSIDE;
        int before = bounds[place];
        bounds[place] = value;
        return before;
    }

    private int[] levels() {
        int[] level = new int[n];
        for (int p = 0; p < n; p++) level[p] = kinds[p] == 1 ? 0 : 99;
        for (int round = 0; round < n; round++) {
            for (int b = 0; b < n; b++) {
                for (int w = 0; w < n; w++) {
                    if (v[b][w] && level[b] < 99) level[w] = Math.min(level[w], level[b] + 1);
                }
            }
        }
        for (int p = 0; p < n; p++) if (level[p] == 99) level[p] = NONE;
        return level;
    }

    private int[] limits() {
        int[] limit = levels();
        for (int p = 0; p < n; p++) limit[p] = limit[p] >= 0 && limit[p] < bounds.length ? bounds[limit[p]] : 0;
        return limit;
    }

    int about(int what) {
        if (what < 0 || what > 7) return OUTSIDE;
        if (n == 0) return STATE;
        switch (what) {
            case 0: return n;
            case 1: return Integer.bitCount(ofKind(1));
            case 2: return Integer.bitCount(ofKind(2));
            case 3: {
                int sum = 0;
                for (int p = 0; p < n; p++) sum += in(p);
                return sum;
            }
            case 4: return bounds.length;
            case 5: return (int) Arrays.stream(levels()).filter(l -> l != NONE).count();
            case 6: return Arrays.stream(levels()).max().getAsInt();
            default: return Arrays.stream(limits()).sum();
        }
    }

    int person(int person, int what) {
        if (!is(person)) return UNKNOWN;
        if (what < 0 || what > 7) return OUTSIDE;
        switch (what) {
            case 0: return kinds[person];
            case 1: return levels()[person];
            case 2: return limits()[person];
            case 3: return out(person);
            case 4: return in(person);
            case 5: return inSet() >> person & 1;
            case 6: return takenIn(person) ? 1 : 0;
            default: return kinds[person] == 1 ? NONE : ways(person);
        }
    }

    int vouches(int by, int whom) {
        return pair(by, whom) ? v[by][whom] ? 1 : 0 : UNKNOWN;
    }

    int generous() {
        if (n == 0) return STATE;
        int best = NONE;
        double most = -1;
        for (int p = 0; p < n; p++) {
            // equal fractions of such small numbers are equal doubles, and others are not
            if (in(p) > 0 && (double) out(p) / in(p) > most) {
                most = (double) out(p) / in(p);
                best = p;
            }
        }
        return best;
    }

    // ---- trust

    /** The cost of a cut that is asked to hold back a set. */
    private int cost(int reached, int set, int[] limits) {
        int sum = Integer.bitCount(reached & set);
        int wall = wall(reached);
        for (int p = 0; p < n; p++) if ((wall >> p & 1) == 1) sum += limits[p];
        return sum;
    }

    private int wall(int reached) {
        int wall = ofKind(1);
        for (int b = 0; b < n; b++) {
            for (int w = 0; w < n; w++) if ((reached >> b & 1) == 1 && v[b][w]) wall |= 1 << w;
        }
        return wall & ~reached;
    }

    /** Whether no cut holds back one of the set: then they can be in together. */
    private boolean noCutHolds(int set, int[] limits) {
        for (int reached = 0; reached < 1 << n; reached++) {
            if (cost(reached, set, limits) < Integer.bitCount(set)) return false;
        }
        return true;
    }

    /** Whether each of the set can have a part that came along a path of its own, tried out. */
    private boolean canBeBrought(int set, int[] left) {
        if (set == 0) return true;
        int p = Integer.numberOfTrailingZeros(set);
        return canComeBack(p, 0, set & ~(1 << p), left);
    }

    private boolean canComeBack(int p, int passed, int rest, int[] left) {
        if (left[p] == 0 || (passed >> p & 1) == 1) return false;
        left[p]--;
        boolean can = kinds[p] == 1 && canBeBrought(rest, left);
        for (int b = 0; b < n && !can; b++) {
            can = v[b][p] && canComeBack(b, passed | 1 << p, rest, left);
        }
        left[p]++;
        return can;
    }

    private boolean canBeTogether(int set, int[] limits) {
        boolean can = noCutHolds(set, limits);
        if (n <= 4 && can != canBeBrought(set, limits.clone())) {
            throw new IllegalStateException("the two measures differ: " + text() + " " + set);
        }
        return can;
    }

    private int inSet() {
        int[] limits = limits();
        int in = 0;
        for (int p = 0; p < n; p++) if (canBeTogether(in | 1 << p, limits)) in |= 1 << p;
        return in;
    }

    private boolean takenIn(int person) {
        if (kinds[person] == 2 || limits()[person] == 0) return false;
        for (int w = 0; w < n; w++) if (v[person][w] && kinds[w] == 2) return true;
        return false;
    }

    private int flood() {
        int[] limits = limits();
        int most = 0;
        for (int set = 0; set < 1 << n; set++) {
            if ((set & ~ofKind(2)) == 0 && Integer.bitCount(set) > most && canBeTogether(set, limits)) {
                most = Integer.bitCount(set);
            }
        }
        return most;
    }

    private PlainVouchFlow copy() {
        PlainVouchFlow c = new PlainVouchFlow();
        c.n = n;
        c.bounds = bounds.clone();
        c.kinds = kinds.clone();
        c.v = new boolean[n][];
        for (int p = 0; p < n; p++) c.v[p] = v[p].clone();
        return c;
    }

    int trust(int what) {
        if (what < 0 || what > 4) return OUTSIDE;
        if (n == 0) return STATE;
        switch (what) {
            case 0: return Integer.bitCount(inSet());
            case 1: return Integer.bitCount(inSet() & ofKind(2));
            case 2: return flood();
            case 3: {
                int sum = 0;
                for (int p = 0; p < n; p++) if (takenIn(p)) sum += limits()[p];
                return sum;
            }
            default: {
                PlainVouchFlow other = copy();
                for (int p = 0; p < n; p++) if (kinds[p] == 2) Arrays.fill(other.v[p], false);
                return Integer.bitCount(other.inSet());
            }
        }
    }

    int together(int persons) {
        if (n == 0) return STATE;
        if (persons < 0 || persons >= 1 << n) return UNKNOWN;
        return canBeTogether(persons, limits()) ? 1 : 0;
    }

    int cut(int what) {
        if (what < 0 || what > 2) return OUTSIDE;
        if (n == 0) return STATE;
        int[] limits = limits();
        int best = 0;
        boolean alone = true;
        for (int reached = 1; reached < 1 << n; reached++) {
            int better = Integer.compare(cost(reached, ofKind(2), limits), cost(best, ofKind(2), limits));
            if (better == 0) better = Integer.compare(Integer.bitCount(reached), Integer.bitCount(best));
            if (better < 0) best = reached;
            if (better <= 0) alone = better < 0;
        }
        if (!alone) throw new IllegalStateException("two cuts: " + text());
        return what == 0 ? cost(best, ofKind(2), limits) : what == 1 ? wall(best) : best;
    }

    private void collectPaths(int p, int passed, boolean[] sets) {
        if ((passed >> p & 1) == 1) return;
        if (kinds[p] == 1) sets[passed | 1 << p] = true;
        for (int b = 0; b < n; b++) if (v[b][p]) collectPaths(b, passed | 1 << p, sets);
    }

    /** The most sets of persons on paths that have but the person in common. */
    private int ways(int person) {
        boolean[] sets = new boolean[1 << n];
        collectPaths(person, 0, sets);
        int[] most = new int[1 << n];
        for (int all = 0; all < 1 << n; all++) {
            if ((all >> person & 1) == 1) continue;
            for (int one = all; one > 0; one = one - 1 & all) {
                if (sets[one | 1 << person]) most[all] = Math.max(most[all], 1 + most[all & ~one]);
            }
        }
        return most[(1 << n) - 1 & ~(1 << person)];
    }

    private boolean isReached(int person, int removed) {
        boolean[] reached = new boolean[n];
        for (int p = 0; p < n; p++) reached[p] = kinds[p] == 1 && (removed >> p & 1) == 0;
        for (int round = 0; round < n; round++) {
            for (int b = 0; b < n; b++) {
                for (int w = 0; w < n; w++) {
                    if (reached[b] && v[b][w] && (removed >> w & 1) == 0) reached[w] = true;
                }
            }
        }
        return reached[person];
    }

    int apart(int person) {
        if (!is(person)) return UNKNOWN;
        if (kinds[person] == 1) return NONE;
        for (int size = 0; size < n; size++) {
            for (int set = 0; set < 1 << n; set++) {
                if ((set >> person & 1) == 0 && Integer.bitCount(set) == size && !isReached(person, set)) return set;
            }
        }
        throw new IllegalStateException("nothing parts: " + text());
    }

    // ---- without a vouch

    int without(int by, int whom, int what) {
        if (!pair(by, whom)) return UNKNOWN;
        if (!v[by][whom]) return STATE;
        if (what < 0 || what > 2) return OUTSIDE;
        PlainVouchFlow other = copy();
        other.v[by][whom] = false;
        return what == 2 ? other.levels()[whom] : other.trust(what);
    }

    int dearest() {
        if (n == 0) return STATE;
        int best = NONE;
        int fewest = 99;
        for (int by = 0; by < n; by++) {
            for (int whom = 0; whom < n; whom++) {
                if (v[by][whom] && without(by, whom, 0) < fewest) {
                    fewest = without(by, whom, 0);
                    best = 10 * by + whom;
                }
            }
        }
        return best;
    }

    // ---- walks

    private record Fraction(BigInteger a, BigInteger b) implements Comparable<Fraction> {
        static Fraction of(long a, long b) {
            return new Fraction(BigInteger.valueOf(a), BigInteger.valueOf(b)).lowest();
        }

        Fraction lowest() {
            BigInteger g = a.gcd(b);
            return new Fraction(a.divide(g), b.divide(g));
        }

        Fraction plus(Fraction o) {
            return new Fraction(a.multiply(o.b).add(o.a.multiply(b)), b.multiply(o.b)).lowest();
        }

        Fraction times(Fraction o) {
            return new Fraction(a.multiply(o.a), b.multiply(o.b)).lowest();
        }

        @Override
        public int compareTo(Fraction o) {
            return a.multiply(o.b).compareTo(o.a.multiply(b));
        }
    }

    private Fraction probability(int person, int k) {
        Fraction start = Fraction.of(1, Integer.bitCount(ofKind(1)));
        if (k == 0) return kinds[person] == 1 ? start : Fraction.of(0, 1);
        Fraction sum = Fraction.of(0, 1);
        for (int b = 0; b < n; b++) {
            Fraction step = Fraction.of(0, 1);
            if (v[b][person]) step = Fraction.of(1, out(b));
            if (out(b) == 0 && kinds[person] == 1) step = start;
            if (step.a.signum() > 0) sum = sum.plus(probability(b, k - 1).times(step));
        }
        return sum;
    }

    int chance(int person, int k, int what) {
        if (!is(person)) return UNKNOWN;
        if (k < 0 || k > 4 || what < 0 || what > 1) return OUTSIDE;
        if (ofKind(1) == 0) return STATE;
        Fraction f = probability(person, k);
        return (what == 0 ? f.a : f.b).intValueExact();
    }

    int thousandths(int person, int k) {
        if (!is(person)) return UNKNOWN;
        if (k < 0 || k > 4) return OUTSIDE;
        if (ofKind(1) == 0) return STATE;
        Fraction f = probability(person, k);
        return f.a.multiply(BigInteger.valueOf(1000)).divide(f.b).intValueExact();
    }

    int order(int k, int place) {
        if (k < 0 || k > 4) return OUTSIDE;
        if (ofKind(1) == 0) return STATE;
        if (!is(place)) return UNKNOWN;
        List<Integer> all = new ArrayList<>();
        List<Fraction> chances = new ArrayList<>();
        for (int p = 0; p < n; p++) {
            all.add(p);
            chances.add(probability(p, k));
        }
        // the sort is stable, so equal chances stay in the order of the numbers
        all.sort((x, y) -> chances.get(y).compareTo(chances.get(x)));
        return all.get(place);
    }

    // ---- counts

    int count(int what) {
        if (what < 0 || what > 4) return OUTSIDE;
        return new int[] {n, page.length(), reads, added, removed}[what];
    }

    long digest() {
        List<Integer> results = new ArrayList<>();
        if (n > 0) {
            for (int i = 0; i < text().length(); i++) results.add(ink(i));
            for (int what = 0; what < 8; what++) results.add(about(what));
            for (int p = 0; p < n; p++) {
                for (int what = 0; what < 8; what++) results.add(person(p, what));
                results.add(apart(p));
            }
            results.add(generous());
            for (int what = 0; what < 5; what++) results.add(trust(what));
            for (int what = 0; what < 3; what++) results.add(cut(what));
            int dear = dearest();
            results.add(dear);
            for (int what = 0; dear != NONE && what < 3; what++) results.add(without(dear / 10, dear % 10, what));
        }
        for (int k = 0; ofKind(1) != 0 && k < 5; k++) {
            for (int p = 0; p < n; p++) {
                results.add(chance(p, k, 0));
                results.add(chance(p, k, 1));
                results.add(thousandths(p, k));
            }
            for (int place = 0; place < n; place++) results.add(order(k, place));
        }
        for (int i = 0; i < page.length(); i++) results.add((int) page.charAt(i));
        for (int what = 0; what < 5; what++) results.add(count(what));
        long hash = 1553;
        for (int result : results) hash = hash * 31 + result;
        return hash;
    }
}
