import java.math.BigInteger;
import java.util.ArrayList;
import java.util.Arrays;
import java.util.HashMap;
import java.util.List;
import java.util.Map;
import java.util.TreeSet;

/**
 * The document once more, written as it reads and with no thought of speed or room: rows of letters
 * are tried out one by one, ways of names walked one by one, fractions are BigIntegers.
 */
final class Model {
    private static final int NONE = -1, BAD = -2, NO = -3, FULL = -4;

    private static final class Letter {
        int from, to;
        int[] forms = new int[8];
    }

    private static final class Name {
        int length, told;
        String text;
    }

    private final List<Letter> letters = new ArrayList<>();
    private final int[] costs = {1, 1, 1, 1, 1};
    private final List<Name> names = new ArrayList<>();
    private final int[] weights = new int[10];
    private final int[] doing = new int[10];
    private final int[] asked = {1, 1, 1, 1, 1, 1, 1, 1, 1, 1};
    private final int[] others = new int[10];
    private final int[] copies = new int[10];
    private final int[] odds = new int[10];
    private final int[] often = {1, 1, 1, 1, 1, 1, 1, 1, 1, 1};
    private final List<Integer> box = new ArrayList<>();
    private BigInteger above = BigInteger.ZERO;
    private BigInteger below = BigInteger.ONE;

    // What the trees are found to be; null as long as that is to be found out.
    private int[][] cheapest;
    private int[][] prices;
    private int cost;
    private List<TreeSet<Integer>> may;
    private int[] tree;

    private static boolean in(long v, long low, long high) {
        return low <= v && v <= high;
    }

    // ---- letters, trees

    int letter(int from, int to) {
        if (!in(from, 0, 99) || !in(to, 0, 99) || from > to) return BAD;
        if (letters.size() == 8) return FULL;
        Letter l = new Letter();
        l.from = from;
        l.to = to;
        Arrays.fill(l.forms, NONE);
        letters.add(l);
        may = null;
        return letters.size() - 1;
    }

    int form(int letter, int sentence, int form) {
        if (!in(letter, 0, letters.size() - 1) || !in(sentence, 0, 7) || !in(form, -1, 9)) return -10;
        int was = letters.get(letter).forms[sentence];
        letters.get(letter).forms[sentence] = form;
        may = null;
        return was;
    }

    int cost(int which, int v) {
        if (!in(which, 0, 4) || !in(v, 0, 9)) return BAD;
        int was = costs[which];
        costs[which] = v;
        may = null;
        return was;
    }

    /** The letters a way comes from; null: no such way. */
    private int[] sources(int letter, int way) {
        int n = letters.size();
        if (!in(letter, 0, n - 1)) return null;
        if (way == 0) return new int[0];
        for (int i = 0; i < n; i++) {
            if (way == 1 + i) return i == letter ? null : new int[] {i};
        }
        for (int x = 0; x < n; x++) {
            for (int y = 0; y < n; y++) {
                for (int c = 1; c <= 7; c++) {
                    if (way == 20 + 64 * x + 8 * y + c && x != y && x != letter && y != letter) return new int[] {x, y};
                }
            }
        }
        return null;
    }

    private int copied(int newer, int older, int fromSentence, int toSentence) {
        int sum = 0;
        for (int s = fromSentence; s < toSentence; s++) {
            int a = letters.get(newer).forms[s], b = letters.get(older).forms[s];
            if (a == b) continue;
            if (a == NONE) sum += costs[0];
            else if (b == NONE) sum += costs[2];
            else sum += costs[1];
        }
        return sum;
    }

    int price(int letter, int way) {
        int[] from = sources(letter, way);
        if (from == null) return -1;
        if (from.length == 0) {
            int sum = 0;
            for (int f : letters.get(letter).forms) if (f != NONE) sum += costs[3];
            return sum;
        }
        if (from.length == 1) return copied(letter, from[0], 0, 8);
        int c = (way - 20) % 8;
        return costs[4] + copied(letter, from[0], 0, c) + copied(letter, from[1], c, 8);
    }

    private static int bits(int[] from) {
        int b = 0;
        for (int i : from) b |= 1 << i;
        return b;
    }

    /** Tries all rows in which the letters may have come. */
    private void find() {
        if (may != null) return;
        int n = letters.size();
        cheapest = new int[n][1 << n];
        prices = new int[n][532];
        may = new ArrayList<>();
        for (int i = 0; i < n; i++) {
            may.add(new TreeSet<>());
            Arrays.fill(cheapest[i], 1000000);
            for (int way = 0; way < 532; way++) {
                prices[i][way] = price(i, way);
                int[] from = sources(i, way);
                if (from == null) continue;
                for (int set = 0; set < 1 << n; set++) {
                    if ((bits(from) & ~set) == 0) cheapest[i][set] = Math.min(cheapest[i][set], prices[i][way]);
                }
            }
        }
        cost = 1000000;
        collected = new boolean[n][1 << n];
        rows(0, 0, new int[n], 0, false);
        rows(0, 0, new int[n], 0, true);
        tree = new int[n];
        if (!grow(0, 0)) throw new IllegalStateException("no tree");
    }

    private void rows(int set, int sum, int[] ahead, int placed, boolean collect) {
        int n = letters.size();
        if (sum > cost) return;
        if (placed == n) {
            if (!collect) cost = Math.min(cost, sum);
            else for (int i = 0; i < n; i++) collectWays(i, ahead[i]);
            return;
        }
        for (int i = 0; i < n; i++) {
            if ((set >> i & 1) != 0) continue;
            ahead[i] = set;
            rows(set | 1 << i, sum + cheapest[i][set], ahead, placed + 1, collect);
        }
    }

    private boolean[][] collected;

    private void collectWays(int i, int set) {
        if (collected[i][set]) return;
        collected[i][set] = true;
        for (int way = 0; way < 532; way++) {
            int[] from = sources(i, way);
            if (from != null && (bits(from) & ~set) == 0 && prices[i][way] == cheapest[i][set]) may.get(i).add(way);
        }
    }

    /** The first row of ways, tried in order, that is a tree with the cost. */
    private boolean grow(int letter, int sum) {
        int n = letters.size();
        if (letter == n) return sum == cost;
        int behind = 0;
        for (int i = letter + 1; i < n; i++) behind += cheapest[i][(1 << n) - 1 & ~(1 << i)];
        for (int way : may.get(letter)) {
            tree[letter] = way;
            if (sum + prices[letter][way] + behind > cost) continue;
            if (comesFromItself(letter)) continue;
            if (grow(letter + 1, sum + prices[letter][way])) return true;
        }
        return false;
    }

    private boolean comesFromItself(int letter) {
        int seen = 0, fresh = bits(sources(letter, tree[letter]));
        while (fresh != 0) {
            seen |= fresh;
            int got = 0;
            for (int i = 0; i <= letter; i++) {
                if ((fresh >> i & 1) != 0) got |= bits(sources(i, tree[i]));
            }
            fresh = got & ~seen;
        }
        return (seen >> letter & 1) != 0;
    }

    int least() {
        find();
        return cost;
    }

    int way(int letter) {
        if (!in(letter, 0, letters.size() - 1)) return -1;
        find();
        return tree[letter];
    }

    int may(int letter, int way) {
        if (sources(letter, way) == null) return BAD;
        find();
        return may.get(letter).contains(way) ? 1 : 0;
    }

    int sure(int letter) {
        if (!in(letter, 0, letters.size() - 1)) return BAD;
        find();
        return may.get(letter).size() == 1 ? 1 : 0;
    }

    int date(int letter, int what) {
        if (!in(letter, 0, letters.size() - 1) || !in(what, 0, 1)) return BAD;
        find();
        for (int i = 0; i < letters.size(); i++) {
            if (firstYear(i) > letters.get(i).to) return NONE;
        }
        return what == 0 ? firstYear(letter) : lastYear(letter);
    }

    private int firstYear(int letter) {
        int year = letters.get(letter).from;
        for (int older : sources(letter, tree[letter])) year = Math.max(year, firstYear(older));
        return year;
    }

    private int lastYear(int letter) {
        int year = letters.get(letter).to;
        for (int i = 0; i < letters.size(); i++) {
            for (int older : sources(i, tree[i])) {
                if (older == letter) year = Math.min(year, lastYear(i));
            }
        }
        return year;
    }

    // ---- names, habits, sums

    int name(int length, int told) {
        if (!in(length, 1, 6) || told < 0) return BAD;
        String text = "";
        for (int v = told; v > 0; v /= 27) text = (char) ('`' + v % 27) + text;
        if (text.length() != length || text.indexOf('`') >= 0) return BAD;
        if (names.size() == 10) return FULL;
        Name n = new Name();
        n.length = length;
        n.told = told;
        n.text = text;
        names.add(n);
        return names.size() - 1;
    }

    private static int apart(String a, String b) {
        if (a.isEmpty() || b.isEmpty()) return a.length() + b.length();
        if (a.charAt(0) == b.charAt(0)) return apart(a.substring(1), b.substring(1));
        int drop = apart(a.substring(1), b), put = apart(a, b.substring(1));
        return 1 + Math.min(Math.min(drop, put), apart(a.substring(1), b.substring(1)));
    }

    private final Map<String, Integer> known = new HashMap<>();

    private int slipsOf(int a, int b) {
        String s = names.get(a).text, t = names.get(b).text;
        return known.computeIfAbsent(s + " " + t, k -> apart(s, t));
    }

    int slips(int a, int b) {
        if (!in(a, 0, names.size() - 1) || !in(b, 0, names.size() - 1)) return BAD;
        return slipsOf(a, b);
    }

    private List<Integer> bestRow;
    private int bestSum;

    int worn(int a, int b, int what) {
        if (!in(a, 0, names.size() - 1) || !in(b, 0, names.size() - 1) || what < -1) return -10;
        bestRow = null;
        List<Integer> row = new ArrayList<>();
        row.add(a);
        walk(row, b, 0);
        if (what == -1) return bestSum;
        return what < bestRow.size() ? bestRow.get(what) : -5;
    }

    /** All rows in order: so of like ones the first is met first. */
    private void walk(List<Integer> row, int b, int sum) {
        if (bestRow != null && sum > bestSum) return;
        int at = row.get(row.size() - 1);
        if (at == b) {
            if (bestRow == null || sum < bestSum || row.size() < bestRow.size()) {
                bestRow = new ArrayList<>(row);
                bestSum = sum;
            }
            return;
        }
        for (int next = 0; next < names.size(); next++) {
            if (row.contains(next)) continue;
            row.add(next);
            walk(row, b, sum + slipsOf(at, next) * slipsOf(at, next));
            row.remove(row.size() - 1);
        }
    }

    int habit(int k, int v) {
        if (!in(k, 0, 9) || !in(v, 0, 100)) return BAD;
        int was = weights[k];
        weights[k] = v;
        return was;
    }

    private int allWeights() {
        int sum = 0;
        for (int w : weights) sum += w;
        return sum;
    }

    private int allCopies() {
        int sum = 0;
        for (int k = 0; k < 10; k++) sum += weights[k] * k;
        return sum;
    }

    int lives() {
        if (allWeights() == 0) return 0;
        return allCopies() > allWeights() ? 2 : allCopies() == allWeights() ? 1 : 0;
    }

    private void fraction(BigInteger top, BigInteger bottom) {
        BigInteger g = top.gcd(bottom);
        above = top.divide(g);
        below = bottom.divide(g);
    }

    private void fraction(long top, long bottom) {
        fraction(BigInteger.valueOf(top), BigInteger.valueOf(bottom));
    }

    int mean() {
        if (allWeights() == 0) return NO;
        fraction(allCopies(), allWeights());
        return 1;
    }

    int gone(int n) {
        if (!in(n, 0, 3)) return BAD;
        if (allWeights() == 0) return NO;
        BigInteger top = BigInteger.ZERO, bottom = BigInteger.ONE;
        for (int i = 0; i < n; i++) {
            BigInteger sum = BigInteger.ZERO;
            for (int k = 0; k < 10; k++) {
                sum = sum.add(BigInteger.valueOf(weights[k]).multiply(top.pow(k)).multiply(bottom.pow(9 - k)));
            }
            bottom = bottom.pow(9).multiply(BigInteger.valueOf(allWeights()));
            top = sum;
        }
        fraction(top, bottom);
        return 1;
    }

    int asking(int a, int c, int b) {
        if (!in(a, 1, 9) || !in(b, 1, 100) || !in(c, 0, 100) || c > b) return BAD;
        doing[a] = c;
        asked[a] = b;
        return 1;
    }

    int best(int what) {
        if (!in(what, 0, 1)) return BAD;
        int best = 9;
        for (int a = 9; a >= 1; a--) {
            if (a * doing[a] * asked[best] >= best * doing[best] * asked[a]) best = a;
        }
        if (what == 0) return best;
        fraction((long) best * doing[best], asked[best]);
        return 1;
    }

    long round(int a, int r) {
        if (!in(a, 1, 9) || !in(r, 0, 18)) return -1;
        return BigInteger.valueOf(a).pow(r).longValueExact();
    }

    int outrun(int a, long people) {
        if (!in(a, 1, 9) || !in(people, 1, 10000000000L)) return BAD;
        for (int r = 0; r <= 18; r++) {
            BigInteger all = BigInteger.ZERO;
            for (int i = 0; i <= r; i++) all = all.add(BigInteger.valueOf(a).pow(i));
            if (all.compareTo(BigInteger.valueOf(people)) > 0) return r;
        }
        return NONE;
    }

    // ---- nets, boxes

    int sends(int person, int bits) {
        if (!in(person, 0, 9) || !in(bits, 0, 1023)) return BAD;
        int was = others[person];
        others[person] = bits;
        return was;
    }

    int copies(int person, int n, int p, int most) {
        if (!in(person, 0, 9) || !in(n, 0, 9) || !in(p, 0, 100) || !in(most, 1, 9)) return BAD;
        copies[person] = n;
        odds[person] = p;
        often[person] = most;
        return 1;
    }

    private List<Integer> toWhom(int person) {
        List<Integer> row = new ArrayList<>();
        for (int i = person + 1; i < 10; i++) if ((others[person] & 1 << i) != 0) row.add(i);
        for (int i = 0; i < person; i++) if ((others[person] & 1 << i) != 0) row.add(i);
        return row.subList(0, Math.min(row.size(), copies[person]));
    }

    int run(int person, int lot, int what) {
        if (!in(person, 0, 9) || !in(what, -1, 9)) return BAD;
        List<TreeSet<Integer>> got = new ArrayList<>();
        got.add(new TreeSet<>(List.of(person)));
        int[] times = new int[10];
        while (!got.get(got.size() - 1).isEmpty() && got.size() <= 60) {
            TreeSet<Integer> today = new TreeSet<>();
            for (int i : got.get(got.size() - 1)) {
                lot = lot * 1103515245 + 12345;
                long drawn = (lot & 0xffffffffL) / 65536 % 100;
                if (drawn < odds[i] && times[i] < often[i]) {
                    times[i]++;
                    today.addAll(toWhom(i));
                }
            }
            got.add(today);
        }
        int last = 0, days = 0;
        for (int day = 0; day < got.size(); day++) {
            if (!got.get(day).isEmpty()) last = day;
            if (got.get(day).contains(what)) days++;
        }
        return what == NONE ? last : days;
    }

    private int reachOf(int person, int told) {
        int reach = 1 << person;
        for (int time = 0; time < 10; time++) {
            for (int i = 0; i < 10; i++) {
                if ((reach & 1 << i) == 0 || (told & 1 << i) != 0 || odds[i] == 0) continue;
                for (int j : toWhom(i)) if ((told & 1 << j) == 0) reach |= 1 << j;
            }
        }
        return reach;
    }

    int reach(int person, int told) {
        if (!in(person, 0, 9) || !in(told, 0, 1023)) return BAD;
        return reachOf(person, told);
    }

    int stop(int person, int m) {
        if (!in(person, 0, 9) || !in(m, 1, 10)) return BAD;
        int best = 1023 & ~(1 << person);
        for (int told = 0; told < 1024; told++) {
            if ((told & 1 << person) != 0) continue;
            if (Integer.bitCount(told) >= Integer.bitCount(best)) continue;
            if (Integer.bitCount(reachOf(person, told)) <= m) best = told;
        }
        return best;
    }

    int keep(int kind) {
        if (!in(kind, 0, 99)) return BAD;
        if (box.size() == 40) return FULL;
        box.add(kind);
        return box.size();
    }

    int burn() {
        int were = box.size();
        box.clear();
        return were;
    }

    int hidden() {
        Map<Integer, Integer> kept = new HashMap<>();
        for (int kind : box) kept.merge(kind, 1, Integer::sum);
        int f = 0, g = 0;
        for (int v : kept.values()) {
            if (v == 1) f++;
            if (v == 2) g++;
        }
        if (g > 0) fraction((long) kept.size() * 2 * g + f * f, 2 * g);
        else fraction(kept.size() + f * (f - 1) / 2, 1);
        return 1;
    }

    private static int limbs(BigInteger v) {
        return (v.bitLength() + 29) / 30;
    }

    private static int limbOf(BigInteger v, int i) {
        return v.shiftRight(30 * i).intValue() & 0x3fffffff;
    }

    int sign(int what) {
        if (what == 0) return above.signum();
        if (what == 1) return limbs(above);
        return what == 2 ? limbs(below) : BAD;
    }

    int limb(int which, int i) {
        if (!in(which, 0, 1) || i < 0) return BAD;
        BigInteger v = which == 0 ? above : below;
        return i < limbs(v) ? limbOf(v, i) : NONE;
    }

    int count(int what) {
        if (what == 0) return letters.size();
        if (what == 2) return names.size();
        if (what == 3) return box.size();
        if (what != 1) return BAD;
        int there = 0;
        for (Letter l : letters) for (int f : l.forms) if (f != NONE) there++;
        return there;
    }

    long digest() {
        List<Integer> row = new ArrayList<>();
        for (int i = 0; i < 4; i++) row.add(count(i));
        for (Letter l : letters) {
            row.add(l.from);
            row.add(l.to);
            for (int f : l.forms) row.add(f);
        }
        for (int c : costs) row.add(c);
        for (Name n : names) {
            row.add(n.length);
            row.add(n.told);
        }
        for (int w : weights) row.add(w);
        for (int a = 1; a <= 9; a++) {
            row.add(doing[a]);
            row.add(asked[a]);
        }
        for (int i = 0; i < 10; i++) row.addAll(List.of(others[i], copies[i], odds[i], often[i]));
        row.addAll(box);
        row.add(least());
        for (int i = 0; i < 3; i++) row.add(sign(i));
        for (int i = 0; i < limbs(above); i++) row.add(limbOf(above, i));
        for (int i = 0; i < limbs(below); i++) row.add(limbOf(below, i));
        long h = 457;
        for (int v : row) h = 31 * h + v;
        return h;
    }
}
