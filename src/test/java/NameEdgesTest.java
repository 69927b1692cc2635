import java.math.BigInteger;

/** The edges of promises 11 to 21: the last that is taken, the first that is refused, the empty and the full. */
public final class NameEdgesTest {
    private static final int NONE = Edge.NONE, BAD = Edge.BAD, NO = Edge.NO, FULL = Edge.FULL, MIN = Edge.MIN,
        MAX = Edge.MAX;

    public static void main(String[] args) {
        nameTaken();
        nameRefused();
        namesFull();
        slipsRefused();
        slipsAtTheEnds();
        slipsOfAllLengths();
        wornRefused();
        wornToItself();
        wornNotSoMany();
        wornByAll();
        wornByLikeOnes();
        habitTaken();
        habitRefused();
        livesByOne();
        noWeights();
        meanAtTheEnds();
        goneRefused();
        goneAtTheEnds();
        goneOfTheLargest();
        askingTaken();
        askingRefused();
        bestRefused();
        bestAtTheEnds();
        roundRefused();
        roundOfAll();
        outrunRefused();
        outrunByOne();
        Check.end();
    }

    private static ChainLetters named(String... names) {
        ChainLetters x = new ChainLetters();
        for (int i = 0; i < names.length; i++) Check.due("name " + names[i], Edge.tellName(x, names[i]), i);
        return x;
    }

    private static void whole(String what, ChainLetters x, int which, BigInteger want) {
        int size = x.sign(which + 1);
        BigInteger got = BigInteger.ZERO;
        for (int i = 0; i < size; i++) got = got.add(BigInteger.valueOf(x.limb(which, i)).shiftLeft(30 * i));
        Check.that(what + " is " + want + ", not " + got, got.equals(want));
        Check.due(what + ": how many limbs", size, (want.bitLength() + 29) / 30);
        Check.due(what + ": one limb more", x.limb(which, size), NONE);
    }

    private static void fraction(String what, ChainLetters x, long above, long below) {
        Check.due(what + ": sign", x.sign(0), above > 0 ? 1 : 0);
        whole(what + ": above", x, 0, BigInteger.valueOf(above));
        whole(what + ": below", x, 1, BigInteger.valueOf(below));
    }

    private static int power(int exponent) {
        int p = 1;
        for (int i = 0; i < exponent; i++) p *= 27;
        return p;
    }

    // "1 to 6 letters (1 .. 26 each, told as digits to the base 27, the first highest)": a .. z of each length.
    private static void nameTaken() {
        for (int length = 1; length <= 6; length++) {
            ChainLetters x = new ChainLetters();
            int a = (power(length) - 1) / 26, z = power(length) - 1;
            Check.due("the least name of " + length, x.name(length, a), 0);
            Check.due("the greatest name of " + length, x.name(length, z), 1);
            Check.due("slips between them", x.slips(0, 1), length);
            // The first letter is the highest digit: b.. stands nearer to another b.. than to the one that ends so.
            if (length > 1) {
                Check.due("another first letter", x.name(length, a + power(length - 1)), 2);
                Check.due("another last letter", x.name(length, a + 1), 3);
                Check.due("the first letter alone", x.name(1, 2), 4);
                Check.due("slips from a like one", x.slips(0, 2) + x.slips(0, 3), 2);
                Check.due("slips between first and last", x.slips(2, 3), 2);
                Check.due("slips to the first letter", x.slips(2, 4), length - 1);
            }
            Check.due("count(2)", x.count(2), length > 1 ? 5 : 2);
        }
        ChainLetters order = named("ab", "ba", "a");
        Check.due("ab is 1 by 27 and 2", order.name(2, 29), 3);
        Check.due("slips(0, 3)", order.slips(0, 3), 0);
        Check.due("slips(1, 3)", order.slips(1, 3), 2);
    }

    // "BAD: a digit 0, too".
    private static void nameRefused() {
        for (int v : Edge.beyond(1, 6)) {
            Edge.refused("name(" + v + ", a)", BAD, x -> x.name(v, 1));
            Edge.refused("name(" + v + ", aaaaaa)", BAD, x -> x.name(v, Edge.digits("aaaaaa")));
        }
        Edge.refused("name(0, 0)", BAD, x -> x.name(0, 0));
        Edge.refused("name(7, aaaaaaa)", BAD, x -> x.name(7, Edge.digits("aaaaaaa")));
        for (int length = 1; length <= 6; length++) {
            int n = length, a = (power(n) - 1) / 26, z = power(n) - 1;
            for (int v : new int[] {a - 1, z + 1, 0, -1, -a, MIN, MAX}) {
                Edge.refused("name(" + n + ", " + v + ")", BAD, x -> x.name(n, v));
            }
            // As long as another one, and with a 0 at each place.
            Edge.refused("name(" + n + ", one letter less)", BAD, x -> x.name(n, (power(n - 1) - 1) / 26));
            if (n < 6) Edge.refused("name(" + n + ", one letter more)", BAD, x -> x.name(n, (power(n + 1) - 1) / 26));
            for (int place = 0; place < n; place++) {
                int zero = z - 26 * power(place);
                Edge.refused("name(" + n + ", 0 at " + place + ")", BAD, x -> x.name(n, zero));
            }
        }
        ChainLetters x = new ChainLetters();
        x.name(1, 0);
        x.name(2, 27);
        Check.due("name(1, 1) behind refused ones", x.name(1, 1), 0);
    }

    // "FULL: 10."; nameRefused() has BAD on a full one.
    private static void namesFull() {
        for (int length = 1; length <= 6; length++) {
            int n = length;
            Edge.refusedOn("a full one", Edge::full, "name(" + n + ", zz..)", FULL, x -> x.name(n, power(n) - 1));
        }
        ChainLetters x = new ChainLetters();
        for (int i = 0; i < 9; i++) x.name(1, 1 + i);
        Check.due("the tenth name", x.name(1, 26), 9);
        Check.due("the eleventh name", x.name(1, 26), FULL);
        Check.due("the eleventh name, again", x.name(1, 1), FULL);
        Check.due("slips to the tenth", x.slips(0, 9), 1);
        Check.due("count(2)", x.count(2), 10);
    }

    private static void slipsRefused() {
        for (int v : new int[] {-1, 10, MIN, MAX}) {
            Edge.refused("slips(" + v + ", 0)", BAD, x -> x.slips(v, 0));
            Edge.refused("slips(0, " + v + ")", BAD, x -> x.slips(0, v));
        }
        Edge.refused("slips(count, 0)", BAD, x -> x.slips(x.count(2), 0));
        Edge.refused("slips(0, count)", BAD, x -> x.slips(0, x.count(2)));
    }

    // From none (a name by itself, like ones) to six; all by dropping, by putting in, by changing.
    private static void slipsAtTheEnds() {
        String[] names = {"abcdef", "abcdef", "ghijkl", "f", "a", "c", "z", "fabcde", "bcdefa", "badcfe"};
        int[] due = {0, 0, 6, 5, 5, 5, 6, 2, 2, 4};
        ChainLetters x = named(names);
        for (int i = 0; i < 10; i++) {
            Check.due("slips(0, " + i + ")", x.slips(0, i), due[i]);
            Check.due("slips(" + i + ", 0)", x.slips(i, 0), due[i]);
            Check.due("slips(" + i + ", itself)", x.slips(i, i), 0);
        }
        Check.due("slips between one letter each", x.slips(3, 4), 1);
    }

    private static void slipsOfAllLengths() {
        // Each length to each: short ones told behind long ones that are alike, and the other way round.
        for (boolean rising : new boolean[] {true, false}) {
            ChainLetters y = new ChainLetters();
            for (int i = 0; i < 10; i++) {
                int length = rising ? 2 + i / 2 : 6 - i / 2;
                Check.due("name " + i, y.name(length, (i % 2 + 1) * ((power(length) - 1) / 26)), i);
            }
            for (int i = 0; i < 10; i++) {
                for (int j = 0; j < 10; j++) {
                    int one = rising ? 2 + i / 2 : 6 - i / 2, other = rising ? 2 + j / 2 : 6 - j / 2;
                    int due = i % 2 == j % 2 ? Math.abs(one - other) : Math.max(one, other);
                    Check.due("slips of " + one + " and " + other + " letters", y.slips(i, j), due);
                }
            }
        }
        ChainLetters z = named("abcdef", "abcdef", "z", "f");
        Check.due("six to one, none alike", z.slips(0, 2), 6);
        Check.due("six to one, one alike", z.slips(0, 3), 5);
    }

    // "BAD: -10."
    private static void wornRefused() {
        for (int v : new int[] {-1, 10, MIN, MAX}) {
            for (int what : new int[] {NONE, 0, 1, MAX}) {
                Edge.refused("worn(" + v + ", 0, " + what + ")", -10, x -> x.worn(v, 0, what));
                Edge.refused("worn(0, " + v + ", " + what + ")", -10, x -> x.worn(0, v, what));
            }
        }
        Edge.refused("worn(count, 0, -1)", -10, x -> x.worn(x.count(2), 0, NONE));
        Edge.refused("worn(0, count, 0)", -10, x -> x.worn(0, x.count(2), 0));
        Edge.refused("worn(0, 0, -2)", -10, x -> x.worn(0, 0, -2));
        Edge.refused("worn(0, 0, min)", -10, x -> x.worn(0, 0, MIN));
    }

    private static void row(ChainLetters x, int a, int b, int cost, int... names) {
        String way = "worn(" + a + ", " + b + ")";
        for (int i = names.length - 1; i >= 0; i--) Check.due(way + ", " + i, x.worn(a, b, i), names[i]);
        for (int i : new int[] {names.length, names.length + 1, 10, 11, MAX}) {
            if (i >= names.length) Check.due(way + ", " + i + ": not so many", x.worn(a, b, i), -5);
        }
        Check.due(way + ", what it costs", x.worn(a, b, NONE), cost);
    }

    private static void wornToItself() {
        ChainLetters x = named("a");
        row(x, 0, 0, 0, 0);
        ChainLetters y = named("abc", "abc", "xyz", "abd", "q", "q", "q", "q", "q", "abc");
        for (int i = 0; i < 10; i++) row(y, i, i, 0, i);
    }

    // "-5: not so many": it is no refusal by BAD, and changes nothing either.
    private static void wornNotSoMany() {
        for (int what : new int[] {10, 11, MAX}) {
            Edge.refusedOn("one in use", Edge::inUse, "worn(0, 2, " + what + ")", -5, x -> x.worn(0, 2, what));
            Edge.refusedOn("a full one", Edge::full, "worn(0, 9, " + what + ")", -5, x -> x.worn(0, 9, what));
        }
        Edge.refusedOn("one in use", Edge::inUse, "worn(0, 2, 3)", -5, x -> x.worn(0, 2, 3));
        Edge.refusedOn("one in use", Edge::inUse, "worn(1, 1, 1)", -5, x -> x.worn(1, 1, 1));
        // Asked for by place at once, without what it costs ahead of it.
        for (int i = 0; i <= 3; i++) {
            ChainLetters x = named("aaaa", "aabb", "bbbb");
            Check.due("worn(0, 2, " + i + ") at once", x.worn(0, 2, i), i == 3 ? -5 : i);
            Check.due("worn(2, 0, " + i + ") then", x.worn(2, 0, i), i == 3 ? -5 : 2 - i);
            Check.due("worn(1, 0, " + i + ") then", x.worn(1, 0, i), i > 1 ? -5 : 1 - i);
        }
    }

    // By way of all others, in order, against it, and mixed; straight, if none lies between.
    private static void wornByAll() {
        String[] chain = {"aaaaaa", "aaaaab", "aaaabb", "aaabbb", "aabbbb", "abbbbb", "bbbbbb", "bbbbbc", "bbbbcc",
            "bbbccc"};
        row(named(chain), 0, 9, 9, 0, 1, 2, 3, 4, 5, 6, 7, 8, 9);
        row(named(chain), 9, 0, 9, 9, 8, 7, 6, 5, 4, 3, 2, 1, 0);
        int[] place = {3, 8, 1, 6, 0, 9, 4, 2, 7, 5};
        String[] mixed = new String[10];
        for (int i = 0; i < 10; i++) mixed[place[i]] = chain[i];
        row(named(mixed), 3, 5, 9, place);
        row(named(mixed), 5, 3, 9, 5, 7, 2, 4, 9, 0, 6, 1, 8, 3);
        row(named("aaaaaa", "zzzzzz"), 0, 1, 36, 0, 1);
        row(named("aaaaaa", "zzzzzz", "aaazzz"), 0, 1, 18, 0, 2, 1);
        row(named("a", "zzzzzz"), 0, 1, 36, 0, 1);
        row(named("a", "b"), 1, 0, 1, 1, 0);
    }

    // "of like ones the fewest steps, then the first row": like NAMES cost nothing, but are steps.
    private static void wornByLikeOnes() {
        ChainLetters x = named("ab", "ab", "ab", "ab", "ab", "ab", "ab", "ab", "ab", "ac");
        row(x, 0, 8, 0, 0, 8);
        row(x, 8, 9, 1, 8, 9);
        row(x, 9, 0, 1, 9, 0);
        // By way of any of the like ones, also by the first of all.
        ChainLetters y = named("ab", "aa", "bb", "ab");
        row(y, 1, 2, 2, 1, 0, 2);
        row(y, 2, 1, 2, 2, 0, 1);
        ChainLetters z = named("aa", "bb", "ab", "ab", "ba", "ba");
        row(z, 0, 1, 2, 0, 2, 1);
        row(z, 2, 5, 2, 2, 0, 5);
        // Nine steps of 1 are more than one of 3 by 3 as to steps alone: both cost 9, the one step is taken.
        ChainLetters w = named("aaa", "bbb");
        row(w, 0, 1, 9, 0, 1);
        // 4 by one step of 2, 2 by two steps of 1: the least goes ahead of the fewest.
        row(named("aa", "bb", "cb"), 0, 1, 4, 0, 1);
        row(named("aa", "bb", "ba"), 0, 1, 2, 0, 2, 1);
    }

    // "weights of 0 .. 9 copies (0 .. 100 each; all 0 at first)"; "A weight of so many copies: what it was."
    private static void habitTaken() {
        ChainLetters x = new ChainLetters();
        for (int k = 0; k <= 9; k++) {
            Check.due("habit(" + k + ", 0)", x.habit(k, 0), 0);
            Check.due("habit(" + k + ", 100)", x.habit(k, 100), 0);
            Check.due("habit(" + k + ", 1)", x.habit(k, 1), 100);
            Check.due("habit(" + k + ", 99)", x.habit(k, 99), 1);
            Check.due("habit(" + k + ", of its own)", x.habit(k, 10 * k), 99);
        }
        for (int k = 0; k <= 9; k++) Check.due("habit(" + k + ", 0) then", x.habit(k, 0), 10 * k);
    }

    private static void habitRefused() {
        for (int v : Edge.beyond(0, 9)) {
            Edge.refused("habit(" + v + ", 0)", BAD, x -> x.habit(v, 0));
            Edge.refused("habit(" + v + ", 101)", BAD, x -> x.habit(v, 101));
        }
        for (int k : new int[] {0, 1, 9}) {
            for (int v : Edge.beyond(0, 100)) Edge.refused("habit(" + k + ", " + v + ")", BAD, x -> x.habit(k, v));
        }
    }

    // "It GROWS (more than 1), LASTS (1), DIES (less, or no weights)": by one weight more or less.
    private static void livesByOne() {
        int[][] due = {{0, 0, 0, 0}, {1, 0, 0, 0}, {0, 1, 0, 1}, {0, 0, 1, 2}, {1, 0, 1, 1}, {100, 0, 100, 1},
            {100, 0, 99, 0}, {99, 0, 100, 2}, {100, 100, 99, 0}, {99, 100, 100, 2}, {0, 100, 0, 1}, {1, 100, 0, 0},
            {0, 100, 1, 2}};
        ChainLetters x = new ChainLetters();
        for (int[] d : due) {
            for (int k = 0; k < 3; k++) x.habit(k, d[k]);
            Check.due("lives() by " + d[0] + ", " + d[1] + ", " + d[2], x.lives(), d[3]);
        }
        for (int k = 2; k <= 9; k++) {
            ChainLetters y = new ChainLetters();
            y.habit(k, 10);
            for (int v = 10 * k - 11; v <= 10 * k - 9; v++) {
                y.habit(0, v);
                int life = v < 10 * k - 10 ? 2 : v == 10 * k - 10 ? 1 : 0;
                Check.due("lives() by 10 of " + k + ", " + v + " of 0", y.lives(), life);
            }
        }
        for (int k = 0; k <= 9; k++) {
            ChainLetters y = new ChainLetters();
            y.habit(k, 1);
            Check.due("lives() by " + k + " alone", y.lives(), Math.min(k, 2));
            y.habit(k, 0);
            Check.due("lives() without weights again", y.lives(), 0);
        }
    }

    // "NO: no weights.", and THE FRACTION stays; "the first of: BAD ..; NO".
    private static void noWeights() {
        Edge.refusedOn("a new one", ChainLetters::new, "mean()", NO, ChainLetters::mean);
        Edge.refusedOn("one without weights", Edge::unweighted, "mean()", NO, ChainLetters::mean);
        for (int n = 0; n <= 3; n++) {
            int rounds = n;
            Edge.refusedOn("a new one", ChainLetters::new, "gone(" + n + ")", NO, x -> x.gone(rounds));
            Edge.refusedOn("one without weights", Edge::unweighted, "gone(" + n + ")", NO, x -> x.gone(rounds));
        }
        for (int v : Edge.beyond(0, 3)) {
            Edge.refusedOn("one without weights", Edge::unweighted, "gone(" + v + ")", BAD, x -> x.gone(v));
        }
        for (int k = 0; k <= 9; k++) {
            ChainLetters x = new ChainLetters();
            x.habit(k, 1);
            Check.due("mean() by one weight", x.mean(), 1);
            fraction("mean() by one weight", x, k, 1);
            x.habit(k, 0);
            Check.due("mean() without it", x.mean(), NO);
            Check.due("gone(0) without it", x.gone(0), NO);
            fraction("still", x, k, 1);
        }
    }

    private static void meanAtTheEnds() {
        ChainLetters x = new ChainLetters();
        x.habit(0, 100);
        x.mean();
        fraction("0 by 100", x, 0, 1);
        x.habit(0, 0);
        x.habit(9, 100);
        x.mean();
        fraction("900 by 100", x, 9, 1);
        for (int k = 0; k <= 9; k++) x.habit(k, 100);
        x.mean();
        fraction("4500 by 1000", x, 9, 2);
        x.habit(0, 97);
        x.mean();
        fraction("4500 by 997", x, 4500, 997);
        x.habit(0, 100);
        x.habit(1, 99);
        x.mean();
        fraction("4499 by 999", x, 4499, 999);
    }

    private static void goneRefused() {
        for (int v : Edge.beyond(0, 3)) Edge.refused("gone(" + v + ")", BAD, x -> x.gone(v));
    }

    // "rounds (0 .. 3)", "round 0: itself"; a chance of 0, of 1, and between.
    private static void goneAtTheEnds() {
        for (int k = 0; k <= 9; k++) {
            ChainLetters x = new ChainLetters();
            x.habit(k, 100);
            for (int n = 3; n >= 0; n--) {
                Check.due("gone(" + n + ")", x.gone(n), 1);
                fraction("gone(" + n + "), all make " + k, x, k == 0 && n > 0 ? 1 : 0, 1);
            }
        }
        // One of two throws, the others make one: half are left each round.
        ChainLetters y = new ChainLetters();
        y.habit(0, 1);
        y.habit(1, 1);
        for (int n = 0; n <= 3; n++) {
            Check.due("gone(" + n + ")", y.gone(n), 1);
            fraction("gone(" + n + ")", y, (1 << n) - 1, 1 << n);
        }
        ChainLetters z = new ChainLetters();
        z.habit(0, 1);
        z.habit(1, 100);
        z.gone(1);
        fraction("gone(1), one of 101", z, 1, 101);
        z.gone(3);
        fraction("gone(3), one of 101", z, 101 * 101 * 101 - 1000000, 101 * 101 * 101);
    }

    private static BigInteger[] chance(int[] weights, int rounds) {
        BigInteger above = BigInteger.ZERO, below = BigInteger.ONE, all = BigInteger.ZERO;
        for (int w : weights) all = all.add(BigInteger.valueOf(w));
        for (int i = 0; i < rounds; i++) {
            BigInteger sum = BigInteger.ZERO;
            for (int k = 0; k <= 9; k++) {
                sum = sum.add(BigInteger.valueOf(weights[k]).multiply(above.pow(k)).multiply(below.pow(9 - k)));
            }
            above = sum;
            below = below.pow(9).multiply(all);
        }
        BigInteger shared = above.gcd(below);
        return new BigInteger[] {above.divide(shared), below.divide(shared)};
    }

    // The longest FRACTION there is: below stands 997 to the 91st, 31 limbs; and some that are cut short.
    private static void goneOfTheLargest() {
        int[][] habits = {{97, 100, 100, 100, 100, 100, 100, 100, 100, 100},
            {100, 100, 100, 100, 100, 100, 100, 100, 100, 100},
            {1, 100, 100, 100, 100, 100, 100, 100, 100, 100}, {100, 0, 0, 0, 0, 0, 0, 0, 0, 97},
            {96, 0, 0, 0, 0, 0, 0, 0, 0, 32}, {100, 99, 98, 97, 96, 95, 94, 93, 92, 91}, {1, 0, 0, 0, 0, 0, 0, 0, 0, 100},
            {99, 100, 100, 100, 100, 100, 100, 100, 100, 100}};
        for (int[] weights : habits) {
            ChainLetters x = new ChainLetters();
            for (int k = 0; k <= 9; k++) x.habit(k, weights[k]);
            for (int n = 0; n <= 3; n++) {
                Check.due("gone(" + n + ")", x.gone(n), 1);
                BigInteger[] due = chance(weights, n);
                whole("gone(" + n + ") above", x, 0, due[0]);
                whole("gone(" + n + ") below", x, 1, due[1]);
            }
            if (weights[0] == 97) Check.due("limbs of the longest", x.sign(2), 31);
        }
    }

    // "ASKING for a copies (1 .. 9): of b people (1 .. 100) c do it (told; 0 of 1 at first)"; "BAD: c above b, too."
    private static void askingTaken() {
        int[][] told = {{0, 1}, {1, 1}, {0, 100}, {100, 100}, {99, 100}, {1, 100}, {50, 50}, {49, 50}};
        for (int a = 1; a <= 9; a++) {
            ChainLetters x = new ChainLetters();
            for (int[] t : told) {
                Check.due("asking(" + a + ", " + t[0] + ", " + t[1] + ")", x.asking(a, t[0], t[1]), 1);
                Check.due("best(0)", x.best(0), t[0] == 0 ? 1 : a);
                x.best(1);
                int g = BigInteger.valueOf(a * t[0]).gcd(BigInteger.valueOf(t[1])).intValue();
                fraction("best(1)", x, a * t[0] / g, t[1] / g);
            }
        }
    }

    private static void askingRefused() {
        for (int v : Edge.beyond(1, 9)) {
            Edge.refused("asking(" + v + ", 1, 1)", BAD, x -> x.asking(v, 1, 1));
            Edge.refused("asking(" + v + ", 0, 100)", BAD, x -> x.asking(v, 0, 100));
        }
        for (int a : new int[] {1, 5, 9}) {
            for (int v : Edge.beyond(1, 100)) {
                Edge.refused("asking(" + a + ", 0, " + v + ")", BAD, x -> x.asking(a, 0, v));
                Edge.refused("asking(" + a + ", " + v + ", " + v + ")", BAD, x -> x.asking(a, v, v));
            }
            for (int b : new int[] {1, 2, 99, 100}) {
                for (int c : Edge.beyond(0, b)) {
                    Edge.refused("asking(" + a + ", " + c + ", " + b + ")", BAD, x -> x.asking(a, c, b));
                }
            }
        }
    }

    private static void bestRefused() {
        for (int v : Edge.beyond(0, 1)) Edge.refused("best(" + v + ")", BAD, x -> x.best(v));
    }

    // "of like ones the least"; the greatest by the least that there can be; best(0) leaves THE FRACTION.
    private static void bestAtTheEnds() {
        ChainLetters x = new ChainLetters();
        Check.due("best(0) of like ones that are 0", x.best(0), 1);
        for (int a = 9; a >= 1; a--) {
            x.asking(a, 1, 10 * a);
            Check.due("best(0) of like ones from " + a + " on", x.best(0), a);
        }
        fraction("best(0) leaves it", x, 0, 1);
        x.best(1);
        fraction("best(1) of like ones", x, 1, 10);
        // 9 by 99 by 100 is 891 by 100; 8 by 1 is 8; 9 by 88 by 99 is 8 as well.
        x.asking(8, 1, 1);
        x.asking(9, 88, 99);
        Check.due("best(0): 8 is 8", x.best(0), 8);
        x.asking(9, 89, 100);
        Check.due("best(0): 801 by 100 is more than 8", x.best(0), 9);
        x.asking(9, 88, 100);
        Check.due("best(0): 792 by 100 is less than 8", x.best(0), 8);
        // 2 by 50 by 99 and 1 by 100 by 100: 100 by 99 is more than 1, by the least.
        ChainLetters y = new ChainLetters();
        y.asking(1, 100, 100);
        y.asking(2, 50, 99);
        Check.due("best(0): 100 by 99", y.best(0), 2);
        y.asking(2, 49, 98);
        Check.due("best(0): 1 and 1", y.best(0), 1);
        y.asking(2, 49, 99);
        Check.due("best(0): 98 by 99", y.best(0), 1);
    }

    // "BAD: -1."
    private static void roundRefused() {
        for (int v : Edge.beyond(1, 9)) Edge.refused("round(" + v + ", 1)", -1, x -> x.round(v, 1));
        for (int v : Edge.beyond(0, 18)) {
            Edge.refused("round(1, " + v + ")", -1, x -> x.round(1, v));
            Edge.refused("round(9, " + v + ")", -1, x -> x.round(9, v));
        }
    }

    private static void roundOfAll() {
        ChainLetters x = new ChainLetters();
        for (int a = 1; a <= 9; a++) {
            for (int r = 0; r <= 18; r++) {
                Check.due("round(" + a + ", " + r + ")", x.round(a, r), BigInteger.valueOf(a).pow(r).longValueExact());
            }
        }
    }

    private static void outrunRefused() {
        for (int v : Edge.beyond(1, 9)) Edge.refused("outrun(" + v + ", 1)", BAD, x -> x.outrun(v, 1));
        long[] people = {0, -1, 10000000001L, Long.MIN_VALUE, Long.MAX_VALUE, (1L << 32) * 5, 1L << 62, -(1L << 32) + 1};
        for (long v : people) {
            Edge.refused("outrun(1, " + v + ")", BAD, x -> x.outrun(1, v));
            Edge.refused("outrun(9, " + v + ")", BAD, x -> x.outrun(9, v));
        }
    }

    // "the first round in which all letters so far, together, are more than so many people"; "NONE: none to 18."
    private static void outrunByOne() {
        for (int a = 1; a <= 9; a++) {
            ChainLetters x = new ChainLetters();
            BigInteger all = BigInteger.ZERO;
            for (int r = 0; r <= 18; r++) {
                all = all.add(BigInteger.valueOf(a).pow(r));
                if (all.compareTo(BigInteger.valueOf(10000000000L)) > 0) {
                    Check.due("outrun(" + a + ", all people)", x.outrun(a, 10000000000L), r);
                    break;
                }
                long people = all.longValueExact();
                if (people > 1) Check.due("outrun(" + a + ", " + (people - 1) + ")", x.outrun(a, people - 1), r);
                Check.due("outrun(" + a + ", " + people + ")", x.outrun(a, people), r < 18 ? r + 1 : NONE);
                if (r == 18) Check.due("outrun(" + a + ", all people)", x.outrun(a, 10000000000L), NONE);
            }
            Check.due("outrun(" + a + ", 1)", x.outrun(a, 1), 1);
        }
        // More people than an int holds.
        ChainLetters x = new ChainLetters();
        Check.due("outrun(9, 2 to the 32nd)", x.outrun(9, 1L << 32), 11);
        Check.due("outrun(2, 2 to the 32nd)", x.outrun(2, 1L << 32), NONE);
        Check.due("outrun(4, 2 to the 31st)", x.outrun(4, 1L << 31), 16);
    }
}
