/** Promises 11 to 21: names, habits, sums. */
public final class NamesTest {
    public static void main(String[] args) {
        name();
        slips();
        worn();
        wornOfLikeOnes();
        habit();
        lives();
        mean();
        gone();
        asking();
        best();
        round();
        outrun();
        Check.end();
    }

    private static int digits(String name) {
        int sum = 0;
        for (int i = 0; i < name.length(); i++) sum = sum * 27 + name.charAt(i) - '`';
        return sum;
    }

    private static int add(ChainLetters x, String name) {
        return x.name(name.length(), digits(name));
    }

    private static ChainLetters named(String... names) {
        ChainLetters x = new ChainLetters();
        for (int i = 0; i < names.length; i++) Check.due("name " + names[i], add(x, names[i]), i);
        return x;
    }

    private static void fraction(String what, ChainLetters x, int above, int below) {
        Check.due(what + ": sign(0)", x.sign(0), above > 0 ? 1 : 0);
        Check.due(what + ": sign(1)", x.sign(1), above > 0 ? 1 : 0);
        Check.due(what + ": sign(2)", x.sign(2), 1);
        Check.due(what + ": limb(0, 0)", x.limb(0, 0), above > 0 ? above : -1);
        Check.due(what + ": limb(1, 0)", x.limb(1, 0), below);
        Check.due(what + ": limb(1, 1)", x.limb(1, 1), -1);
    }

    private static void name() {
        ChainLetters x = new ChainLetters();
        Check.due("name(0, 0)", x.name(0, 0), -2);
        Check.due("name(0, 1)", x.name(0, 1), -2);
        Check.due("name(7, 1)", x.name(7, 1), -2);
        Check.due("name(-1, 1)", x.name(-1, 1), -2);
        Check.due("name(7, aaaaaaa)", x.name(7, digits("aaaaaaa")), -2);
        Check.due("name(1, 0)", x.name(1, 0), -2);
        Check.due("name(1, 27)", x.name(1, 27), -2);
        Check.due("name(1, 28)", x.name(1, 28), -2);
        Check.due("name(1, -1)", x.name(1, -1), -2);
        Check.due("name(2, 1)", x.name(2, 1), -2);
        Check.due("name(2, 27)", x.name(2, 27), -2);
        Check.due("name(2, 54)", x.name(2, 54), -2);
        Check.due("name(3, a0a)", x.name(3, 729 + 1), -2);
        Check.due("name(6, 27 to the 6th)", x.name(6, 387420489), -2);
        Check.due("name(6, max)", x.name(6, Integer.MAX_VALUE), -2);
        Check.due("name(6, min)", x.name(6, Integer.MIN_VALUE), -2);
        Check.due("name(5, aaaaaa)", x.name(5, digits("aaaaaa")), -2);
        Check.due("name(max, 1)", x.name(Integer.MAX_VALUE, 1), -2);
        Check.due("count(2)", x.count(2), 0);
        Check.due("name(1, 1)", x.name(1, 1), 0);
        Check.due("name(1, 26)", x.name(1, 26), 1);
        Check.due("name(2, 28)", x.name(2, 28), 2);
        Check.due("name(6, zzzzzz)", x.name(6, 387420488), 3);
        Check.due("name(6, aaaaaa)", x.name(6, digits("aaaaaa")), 4);
        for (int i = 5; i < 10; i++) Check.due("a like name", x.name(1, 1), i);
        Check.due("the eleventh name(1, 1)", x.name(1, 1), -4);
        Check.due("the eleventh name(1, 0)", x.name(1, 0), -2);
        Check.due("count(2)", x.count(2), 10);
    }

    private static void slips() {
        ChainLetters x = named("kitten", "sitten", "mittin", "a", "b", "abcdef", "bcdefa", "abc", "acb", "zzzzzz");
        int[][] due = {{0, 1, 1}, {0, 2, 2}, {1, 2, 2}, {3, 4, 1}, {3, 5, 5}, {4, 5, 5}, {5, 6, 2}, {5, 7, 3},
            {7, 8, 2}, {9, 0, 6}, {9, 3, 6}, {6, 7, 5}, {0, 0, 0}, {9, 9, 0}, {6, 8, 5}};
        for (int[] d : due) {
            Check.due("slips(" + d[0] + ", " + d[1] + ")", x.slips(d[0], d[1]), d[2]);
            Check.due("slips(" + d[1] + ", " + d[0] + ")", x.slips(d[1], d[0]), d[2]);
        }
        Check.due("slips(0, 10)", x.slips(0, 10), -2);
        Check.due("slips(10, 0)", x.slips(10, 0), -2);
        Check.due("slips(0, -1)", x.slips(0, -1), -2);
        Check.due("slips(-1, 0)", x.slips(-1, 0), -2);
        ChainLetters y = named("a");
        Check.due("slips(0, 0)", y.slips(0, 0), 0);
        Check.due("slips(0, 1)", y.slips(0, 1), -2);
        Check.due("slips(1, 1)", y.slips(1, 1), -2);
    }

    private static void row(ChainLetters x, int a, int b, int cost, int... names) {
        String way = "worn from " + a + " to " + b;
        Check.due(way + ", the cost", x.worn(a, b, -1), cost);
        for (int i = 0; i < names.length; i++) Check.due(way + ", " + i, x.worn(a, b, i), names[i]);
        Check.due(way + ", the end", x.worn(a, b, names.length), -5);
        Check.due(way + ", far behind", x.worn(a, b, Integer.MAX_VALUE), -5);
    }

    private static void worn() {
        ChainLetters x = named("aaaa", "bbbb", "aabb", "aaab", "abbb");
        row(x, 0, 1, 4, 0, 3, 2, 4, 1);
        row(x, 1, 0, 4, 1, 4, 2, 3, 0);
        row(x, 0, 2, 2, 0, 3, 2);
        row(x, 3, 3, 0, 3);
        Check.due("worn(0, 1, -2)", x.worn(0, 1, -2), -10);
        Check.due("worn(0, 5, -1)", x.worn(0, 5, -1), -10);
        Check.due("worn(5, 0, -1)", x.worn(5, 0, -1), -10);
        Check.due("worn(-1, 0, -1)", x.worn(-1, 0, -1), -10);
        Check.due("worn(0, -1, 0)", x.worn(0, -1, 0), -10);
        Check.due("worn(0, 0, min)", x.worn(0, 0, Integer.MIN_VALUE), -10);
        ChainLetters y = named("aaaaaa", "bbbbbb");
        row(y, 0, 1, 36, 0, 1);
        add(y, "aaabbb");
        row(y, 0, 1, 18, 0, 2, 1);
        add(y, "aabbbb");
        row(y, 0, 1, 9 + 1 + 4, 0, 2, 3, 1);
        ChainLetters all = named("aaaaaa", "aaaaab", "aaaabb", "aaabbb", "aabbbb", "abbbbb", "bbbbbb", "bbbbbc",
            "bbbbcc", "bbbccc");
        row(all, 0, 9, 9, 0, 1, 2, 3, 4, 5, 6, 7, 8, 9);
    }

    private static void wornOfLikeOnes() {
        // Like names cost nothing, but each is a step.
        ChainLetters x = named("ab", "ab", "ab");
        row(x, 0, 2, 0, 0, 2);
        row(x, 2, 0, 0, 2, 0);
        // By way of either one: the least row.
        ChainLetters y = named("cd", "ad", "cb", "ab");
        row(y, 0, 3, 2, 0, 1, 3);
        row(y, 3, 0, 2, 3, 1, 0);
        row(y, 1, 2, 2, 1, 0, 2);
        add(y, "ad");
        row(y, 0, 3, 2, 0, 1, 3);
        row(y, 3, 4, 1, 3, 4);
        // Four steps of one, though the names that lie between stand last.
        ChainLetters z = named("aaaa", "bbbb", "bbba", "bbaa", "baaa");
        row(z, 0, 1, 4, 0, 4, 3, 2, 1);
        // Two rows of two steps: the first row, not the one whose last step is the least.
        ChainLetters w = named("aabb", "ccbb", "aacc", "cccc");
        row(w, 3, 0, 8, 3, 1, 0);
    }

    private static void habit() {
        ChainLetters x = new ChainLetters();
        for (int k = 0; k <= 9; k++) {
            Check.due("habit(k, 100)", x.habit(k, 100), 0);
            Check.due("habit(k, 101)", x.habit(k, 101), -2);
            Check.due("habit(k, -1)", x.habit(k, -1), -2);
            Check.due("habit(k, k)", x.habit(k, k), 100);
        }
        Check.due("habit(10, 1)", x.habit(10, 1), -2);
        Check.due("habit(-1, 1)", x.habit(-1, 1), -2);
        for (int k = 0; k <= 9; k++) Check.due("habit(k, 0)", x.habit(k, 0), k);
    }

    private static void lives() {
        ChainLetters x = new ChainLetters();
        Check.due("lives() without weights", x.lives(), 0);
        x.habit(0, 5);
        Check.due("lives() of none", x.lives(), 0);
        x.habit(1, 5);
        Check.due("lives() of less", x.lives(), 0);
        x.habit(0, 0);
        Check.due("lives() of one", x.lives(), 1);
        x.habit(2, 1);
        Check.due("lives() of more", x.lives(), 2);
        x.habit(0, 1);
        Check.due("lives() of one again", x.lives(), 1);
        x.habit(0, 2);
        Check.due("lives() of less again", x.lives(), 0);
        ChainLetters y = new ChainLetters();
        y.habit(0, 80);
        y.habit(9, 10);
        Check.due("lives() of nine or none", y.lives(), 1);
        y.habit(9, 11);
        Check.due("lives() of nine or none, more", y.lives(), 2);
    }

    private static void mean() {
        ChainLetters x = new ChainLetters();
        x.keep(1);
        x.hidden();
        Check.due("mean() without weights", x.mean(), -3);
        fraction("the fraction as it was", x, 1, 1);
        x.habit(0, 4);
        Check.due("mean()", x.mean(), 1);
        fraction("mean of none", x, 0, 1);
        x.habit(9, 2);
        Check.due("mean()", x.mean(), 1);
        fraction("mean", x, 3, 1);
        x.habit(3, 1);
        Check.due("mean()", x.mean(), 1);
        fraction("mean", x, 3, 1);
        x.habit(1, 1);
        Check.due("mean()", x.mean(), 1);
        fraction("mean", x, 11, 4);
        ChainLetters y = new ChainLetters();
        for (int k = 0; k <= 9; k++) y.habit(k, 100);
        Check.due("mean()", y.mean(), 1);
        fraction("mean of all", y, 9, 2);
        y.habit(9, 99);
        y.mean();
        fraction("mean of nearly all", y, 4491 / 9, 999 / 9);
    }

    private static void gone() {
        ChainLetters x = new ChainLetters();
        Check.due("gone(1) without weights", x.gone(1), -3);
        Check.due("gone(4) without weights", x.gone(4), -2);
        x.habit(0, 50);
        x.habit(2, 50);
        int[] above = {0, 1, 5, 89}, below = {1, 2, 8, 128};
        for (int n = 0; n <= 3; n++) {
            Check.due("gone(" + n + ")", x.gone(n), 1);
            fraction("gone(" + n + ")", x, above[n], below[n]);
        }
        Check.due("gone(4)", x.gone(4), -2);
        Check.due("gone(-1)", x.gone(-1), -2);
        fraction("still", x, 89, 128);
        x.habit(0, 0);
        Check.due("gone(3) if none is ever thrown", x.gone(3), 1);
        fraction("gone(3) if none is ever thrown", x, 0, 1);
        x.habit(2, 0);
        x.habit(0, 7);
        Check.due("gone(0) if all are thrown", x.gone(0), 1);
        fraction("gone(0) if all are thrown", x, 0, 1);
        Check.due("gone(1) if all are thrown", x.gone(1), 1);
        fraction("gone(1) if all are thrown", x, 1, 1);
        Check.due("gone(3) if all are thrown", x.gone(3), 1);
        fraction("gone(3) if all are thrown", x, 1, 1);
        goneOfMany();
    }

    /** 1 of 1000 throws: what is below is 1000 to the 91st. */
    private static void goneOfMany() {
        ChainLetters x = new ChainLetters();
        for (int k = 1; k <= 9; k++) x.habit(k, 100);
        x.habit(0, 1);
        Check.due("gone(3)", x.gone(3), 1);
        java.math.BigInteger all = java.math.BigInteger.valueOf(901), above = java.math.BigInteger.ZERO,
            below = java.math.BigInteger.ONE;
        for (int i = 0; i < 3; i++) {
            java.math.BigInteger sum = below.pow(9);
            for (int k = 1; k <= 9; k++) {
                sum = sum.add(above.pow(k).multiply(below.pow(9 - k)).multiply(java.math.BigInteger.valueOf(100)));
            }
            above = sum;
            below = below.pow(9).multiply(all);
        }
        java.math.BigInteger shared = above.gcd(below);
        whole("gone(3) above", x, 0, above.divide(shared));
        whole("gone(3) below", x, 1, below.divide(shared));
    }

    private static void whole(String what, ChainLetters x, int which, java.math.BigInteger want) {
        int size = x.sign(which + 1);
        java.math.BigInteger got = java.math.BigInteger.ZERO;
        for (int i = size - 1; i >= 0; i--) {
            int limb = x.limb(which, i);
            Check.that(what + ": limb " + i + " is one", limb >= 0 && limb < 1073741824);
            got = got.shiftLeft(30).add(java.math.BigInteger.valueOf(limb));
        }
        Check.that(what + " is " + want, got.equals(want));
        Check.that(what + ": the highest limb is not 0", size > 0 && x.limb(which, size - 1) > 0);
        Check.due(what + ": one limb more", x.limb(which, size), -1);
    }

    private static void asking() {
        ChainLetters x = new ChainLetters();
        Check.due("asking(1, 0, 1)", x.asking(1, 0, 1), 1);
        Check.due("asking(9, 100, 100)", x.asking(9, 100, 100), 1);
        long h = x.digest();
        Check.due("asking(0, 0, 1)", x.asking(0, 0, 1), -2);
        Check.due("asking(10, 0, 1)", x.asking(10, 0, 1), -2);
        Check.due("asking(5, 1, 0)", x.asking(5, 1, 0), -2);
        Check.due("asking(5, 0, 0)", x.asking(5, 0, 0), -2);
        Check.due("asking(5, 0, 101)", x.asking(5, 0, 101), -2);
        Check.due("asking(5, -1, 5)", x.asking(5, -1, 5), -2);
        Check.due("asking(5, 6, 5)", x.asking(5, 6, 5), -2);
        Check.due("asking(5, 0, -5)", x.asking(5, 0, -5), -2);
        Check.due("digest()", x.digest(), h);
    }

    private static void best() {
        ChainLetters x = new ChainLetters();
        Check.due("best(0) of none", x.best(0), 1);
        Check.due("best(1) of none", x.best(1), 1);
        fraction("best of none", x, 0, 1);
        x.asking(9, 1, 100);
        Check.due("best(0)", x.best(0), 9);
        x.asking(3, 3, 100);
        Check.due("best(0), of like ones the least", x.best(0), 3);
        x.asking(2, 5, 100);
        Check.due("best(0)", x.best(0), 2);
        x.asking(4, 3, 100);
        Check.due("best(0)", x.best(0), 4);
        fraction("still", x, 0, 1);
        Check.due("best(1)", x.best(1), 1);
        fraction("best of 4", x, 3, 25);
        x.asking(1, 1, 1);
        Check.due("best(0)", x.best(0), 1);
        x.asking(9, 1, 9);
        Check.due("best(0), of like ones the least", x.best(0), 1);
        x.asking(9, 12, 100);
        Check.due("best(0)", x.best(0), 9);
        Check.due("best(1)", x.best(1), 1);
        fraction("best of 9", x, 27, 25);
        Check.due("best(2)", x.best(2), -2);
        Check.due("best(-1)", x.best(-1), -2);
        x.asking(9, 100, 100);
        Check.due("best(1)", x.best(1), 1);
        fraction("best of all", x, 9, 1);
    }

    private static void round() {
        ChainLetters x = new ChainLetters();
        Check.due("round(9, 18)", x.round(9, 18), 150094635296999121L);
        Check.due("round(9, 0)", x.round(9, 0), 1);
        Check.due("round(1, 18)", x.round(1, 18), 1);
        Check.due("round(2, 10)", x.round(2, 10), 1024);
        Check.due("round(7, 3)", x.round(7, 3), 343);
        Check.due("round(9, 19)", x.round(9, 19), -1);
        Check.due("round(9, -1)", x.round(9, -1), -1);
        Check.due("round(0, 1)", x.round(0, 1), -1);
        Check.due("round(10, 1)", x.round(10, 1), -1);
        Check.due("round(2, max)", x.round(2, Integer.MAX_VALUE), -1);
    }

    private static void outrun() {
        ChainLetters x = new ChainLetters();
        Check.due("outrun(9, 1)", x.outrun(9, 1), 1);
        Check.due("outrun(9, 9)", x.outrun(9, 9), 1);
        Check.due("outrun(9, 10)", x.outrun(9, 10), 2);
        Check.due("outrun(9, 91)", x.outrun(9, 91), 3);
        Check.due("outrun(9, 90)", x.outrun(9, 90), 2);
        Check.due("outrun(9, all)", x.outrun(9, 10000000000L), 11);
        Check.due("outrun(2, 524286)", x.outrun(2, 524286), 18);
        Check.due("outrun(2, 524287)", x.outrun(2, 524287), -1);
        Check.due("outrun(2, all)", x.outrun(2, 10000000000L), -1);
        Check.due("outrun(1, 18)", x.outrun(1, 18), 18);
        Check.due("outrun(1, 19)", x.outrun(1, 19), -1);
        Check.due("outrun(9, 0)", x.outrun(9, 0), -2);
        Check.due("outrun(9, -1)", x.outrun(9, -1), -2);
        Check.due("outrun(9, one too many)", x.outrun(9, 10000000001L), -2);
        Check.due("outrun(0, 5)", x.outrun(0, 5), -2);
        Check.due("outrun(10, 5)", x.outrun(10, 5), -2);
        Check.due("outrun(9, max)", x.outrun(9, Long.MAX_VALUE), -2);
    }
}
