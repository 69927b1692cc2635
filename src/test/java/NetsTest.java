/** Promises 22 to 33: nets, boxes, the fraction, counts, the digest. */
public final class NetsTest {
    public static void main(String[] args) {
        sends();
        copies();
        run();
        runRound();
        runByLots();
        runOften();
        runAtMostSixtyDays();
        reach();
        stop();
        keep();
        burn();
        hidden();
        sign();
        limb();
        count();
        digest();
        refusedChangesNothing();
        Check.end();
    }

    private static int bits(int... people) {
        int b = 0;
        for (int i : people) b |= 1 << i;
        return b;
    }

    private static void got(ChainLetters x, int person, int lot, int last, int... days) {
        Check.due("run(" + person + ", " + lot + ", -1)", x.run(person, lot, -1), last);
        for (int i = 0; i < 10; i++) {
            Check.due("run(" + person + ", " + lot + ", " + i + ")", x.run(person, lot, i), i < days.length ? days[i] : 0);
        }
    }

    private static void sends() {
        ChainLetters x = new ChainLetters();
        for (int i = 0; i <= 9; i++) {
            Check.due("sends(i, 1023)", x.sends(i, 1023), 0);
            Check.due("sends(i, 1024)", x.sends(i, 1024), -2);
            Check.due("sends(i, -1)", x.sends(i, -1), -2);
            Check.due("sends(i, i)", x.sends(i, i), 1023);
        }
        Check.due("sends(10, 1)", x.sends(10, 1), -2);
        Check.due("sends(-1, 1)", x.sends(-1, 1), -2);
        for (int i = 0; i <= 9; i++) Check.due("sends(i, 0)", x.sends(i, 0), i);
    }

    private static void copies() {
        ChainLetters x = new ChainLetters();
        Check.due("copies(0, 0, 0, 1)", x.copies(0, 0, 0, 1), 1);
        Check.due("copies(9, 9, 100, 9)", x.copies(9, 9, 100, 9), 1);
        long h = x.digest();
        Check.due("copies(10, 1, 1, 1)", x.copies(10, 1, 1, 1), -2);
        Check.due("copies(-1, 1, 1, 1)", x.copies(-1, 1, 1, 1), -2);
        Check.due("copies(1, 10, 1, 1)", x.copies(1, 10, 1, 1), -2);
        Check.due("copies(1, -1, 1, 1)", x.copies(1, -1, 1, 1), -2);
        Check.due("copies(1, 1, 101, 1)", x.copies(1, 1, 101, 1), -2);
        Check.due("copies(1, 1, -1, 1)", x.copies(1, 1, -1, 1), -2);
        Check.due("copies(1, 1, 1, 10)", x.copies(1, 1, 1, 10), -2);
        Check.due("copies(1, 1, 1, 0)", x.copies(1, 1, 1, 0), -2);
        Check.due("digest()", x.digest(), h);
    }

    private static void run() {
        ChainLetters x = new ChainLetters();
        got(x, 3, 5, 0, 0, 0, 0, 1);
        x.sends(0, bits(1, 2));
        x.sends(1, bits(3));
        x.sends(2, bits(3));
        for (int i = 0; i < 3; i++) x.copies(i, 9, 100, 1);
        // Both send to the last one on one day: one counts.
        got(x, 0, 5, 2, 1, 1, 1, 1);
        got(x, 1, 5, 1, 0, 1, 0, 1);
        x.sends(3, bits(0));
        x.copies(3, 1, 100, 1);
        // The first one gets it back, but has copied as often as he may.
        got(x, 0, 5, 3, 2, 1, 1, 1);
        x.copies(2, 9, 0, 9);
        got(x, 2, 5, 0, 0, 0, 1);
        Check.due("run(10, 0, 0)", x.run(10, 0, 0), -2);
        Check.due("run(-1, 0, 0)", x.run(-1, 0, 0), -2);
        Check.due("run(0, 0, 10)", x.run(0, 0, 10), -2);
        Check.due("run(0, 0, -2)", x.run(0, 0, -2), -2);
    }

    /** By numbers from his own on, round; himself not. */
    private static void runRound() {
        ChainLetters x = new ChainLetters();
        x.sends(8, bits(0, 3, 7, 8, 9));
        x.copies(8, 1, 100, 1);
        got(x, 8, 1, 1, 0, 0, 0, 0, 0, 0, 0, 0, 1, 1);
        x.copies(8, 2, 100, 1);
        got(x, 8, 1, 1, 1, 0, 0, 0, 0, 0, 0, 0, 1, 1);
        x.copies(8, 3, 100, 1);
        got(x, 8, 1, 1, 1, 0, 0, 1, 0, 0, 0, 0, 1, 1);
        x.copies(8, 5, 100, 1);
        got(x, 8, 1, 1, 1, 0, 0, 1, 0, 0, 0, 1, 1, 1);
        x.copies(8, 0, 100, 1);
        got(x, 8, 1, 0, 0, 0, 0, 0, 0, 0, 0, 0, 1);
        x.sends(0, 1023);
        x.copies(0, 9, 100, 1);
        got(x, 0, 1, 1, 1, 1, 1, 1, 1, 1, 1, 1, 1, 1);
    }

    private static int drawn(int lot) {
        return (lot >>> 16) % 100;
    }

    private static int next(int lot) {
        return lot * 1103515245 + 12345;
    }

    /** The lot is drawn by each who got one, whether he could copy or not; it must be below p. */
    private static void runByLots() {
        int[] lots = {0, 1, 5, -1, 77, 123456789, -987654321, Integer.MAX_VALUE, Integer.MIN_VALUE};
        for (int lot : lots) {
            ChainLetters x = new ChainLetters();
            int first = next(lot), second = next(first), third = next(second), p = drawn(third);
            x.sends(0, bits(1, 2));
            x.sends(2, bits(5));
            x.copies(0, 2, 100, 1);
            x.copies(2, 1, p, 1);
            // 0 draws first, then 1 (who copies nothing), then 2.
            got(x, 0, lot, 1, 1, 1, 1);
            x.copies(2, 1, p + 1, 1);
            got(x, 0, lot, 2, 1, 1, 1, 0, 0, 1);
            Check.due("run(0, .., 2) again, by the same lot", x.run(0, lot, 5), 1);
        }
        // The highest bit counts as any other one: -1 becomes -1103502900, whose bits from 16 on are 48697.
        ChainLetters y = new ChainLetters();
        y.sends(0, bits(1));
        Check.due("48697 left over by 100", drawn(next(-1)), 97);
        y.copies(0, 1, 97, 1);
        got(y, 0, -1, 0, 1);
        y.copies(0, 1, 98, 1);
        got(y, 0, -1, 1, 1, 1);
    }

    private static void runOften() {
        ChainLetters x = new ChainLetters();
        x.sends(0, bits(1));
        x.sends(1, bits(0));
        x.copies(0, 1, 100, 3);
        x.copies(1, 1, 100, 9);
        got(x, 0, 1, 6, 4, 3);
        x.copies(1, 1, 100, 2);
        got(x, 0, 1, 5, 3, 3);
        // One who drew too high has not copied.
        x.copies(1, 1, 0, 9);
        got(x, 0, 1, 1, 1, 1);
        got(x, 1, 1, 0, 0, 1);
    }

    private static void runAtMostSixtyDays() {
        ChainLetters x = new ChainLetters();
        for (int i = 0; i < 10; i++) {
            x.sends(i, bits((i + 1) % 10));
            x.copies(i, 1, 100, 6);
        }
        got(x, 0, 1, 60, 7, 6, 6, 6, 6, 6, 6, 6, 6, 6);
        x.copies(9, 1, 100, 5);
        got(x, 0, 1, 59, 6, 6, 6, 6, 6, 6, 6, 6, 6, 6);
        for (int i = 0; i < 10; i++) x.copies(i, 1, 100, 9);
        got(x, 0, 1, 60, 7, 6, 6, 6, 6, 6, 6, 6, 6, 6);
        got(x, 4, 1, 60, 6, 6, 6, 6, 7, 6, 6, 6, 6, 6);
    }

    private static void reach() {
        ChainLetters x = new ChainLetters();
        Check.due("reach(4, 0) of nobody", x.reach(4, 0), bits(4));
        for (int i = 0; i < 9; i++) {
            x.sends(i, bits(i, i + 1));
            x.copies(i, 1, 1, 1);
        }
        Check.due("reach(0, 0)", x.reach(0, 0), 1023);
        Check.due("reach(5, 0)", x.reach(5, 0), bits(5, 6, 7, 8, 9));
        Check.due("reach(0, 4 told)", x.reach(0, bits(4)), bits(0, 1, 2, 3));
        Check.due("reach(0, 0 told)", x.reach(0, bits(0)), bits(0));
        Check.due("reach(0, all told)", x.reach(0, 1023), bits(0));
        Check.due("reach(5, 4 told)", x.reach(5, bits(4)), bits(5, 6, 7, 8, 9));
        x.copies(3, 1, 0, 9);
        Check.due("reach(0, 0) without luck", x.reach(0, 0), bits(0, 1, 2, 3));
        x.copies(2, 0, 100, 9);
        Check.due("reach(0, 0) without copies", x.reach(0, 0), bits(0, 1, 2));
        x.sends(0, bits(7, 1, 9));
        Check.due("reach(0, 0): the first one only", x.reach(0, 0), bits(0, 1, 2));
        // One who is told better gets his letter all the same: it goes to nobody else instead.
        Check.due("reach(0, 1 told)", x.reach(0, bits(1)), bits(0));
        x.copies(0, 2, 1, 1);
        Check.due("reach(0, 1 told), two copies", x.reach(0, bits(1)), bits(0, 7, 8, 9));
        x.sends(9, bits(0));
        x.copies(9, 1, 1, 1);
        Check.due("reach(8, 0) in a ring", x.reach(8, 0), bits(8, 9, 0, 1, 2, 7));
        Check.due("reach(10, 0)", x.reach(10, 0), -2);
        Check.due("reach(-1, 0)", x.reach(-1, 0), -2);
        Check.due("reach(0, 1024)", x.reach(0, 1024), -2);
        Check.due("reach(0, -1)", x.reach(0, -1), -2);
    }

    private static void stop() {
        ChainLetters x = new ChainLetters();
        Check.due("stop(4, 1) of nobody", x.stop(4, 1), 0);
        for (int i = 0; i < 9; i++) {
            x.sends(i, bits(i + 1));
            x.copies(i, 1, 1, 1);
        }
        Check.due("stop(0, 10)", x.stop(0, 10), 0);
        Check.due("stop(0, 9)", x.stop(0, 9), bits(1));
        Check.due("stop(5, 5)", x.stop(5, 5), 0);
        Check.due("stop(5, 4)", x.stop(5, 4), bits(6));
        Check.due("stop(0, 1)", x.stop(0, 1), bits(1));
        for (int i = 0; i < 10; i++) x.sends(i, 0);
        x.sends(3, 1023);
        x.copies(3, 9, 100, 1);
        Check.due("stop(3, 9) in a star", x.stop(3, 9), bits(0));
        Check.due("stop(3, 7) in a star", x.stop(3, 7), bits(0, 1, 2));
        Check.due("stop(3, 6) in a star", x.stop(3, 6), bits(0, 1, 2, 4));
        Check.due("stop(3, 1) in a star", x.stop(3, 1), 1023 & ~bits(3));
        x.copies(3, 4, 100, 1);
        Check.due("stop(3, 4): four get one", x.stop(3, 4), bits(4));
        x.sends(7, bits(0, 1, 2, 9));
        x.copies(7, 9, 100, 1);
        Check.due("stop(3, 8)", x.stop(3, 8), bits(0));
        Check.due("stop(3, 5): the one by whom most get it", x.stop(3, 5), bits(7));
        Check.due("stop(3, 4)", x.stop(3, 4), bits(7));
        Check.due("stop(3, 3)", x.stop(3, 3), bits(4, 7));
        Check.due("stop(10, 1)", x.stop(10, 1), -2);
        Check.due("stop(-1, 1)", x.stop(-1, 1), -2);
        Check.due("stop(0, 0)", x.stop(0, 0), -2);
        Check.due("stop(0, 11)", x.stop(0, 11), -2);
    }

    private static void keep() {
        ChainLetters x = new ChainLetters();
        Check.due("keep(-1)", x.keep(-1), -2);
        Check.due("keep(100)", x.keep(100), -2);
        for (int i = 1; i <= 40; i++) Check.due("keep", x.keep(i % 2 == 0 ? 0 : 99), i);
        Check.due("the 41st keep(5)", x.keep(5), -4);
        Check.due("the 41st keep(100)", x.keep(100), -2);
        Check.due("count(3)", x.count(3), 40);
    }

    private static void burn() {
        ChainLetters x = new ChainLetters();
        Check.due("burn() of none", x.burn(), 0);
        x.keep(1);
        x.keep(1);
        x.keep(2);
        Check.due("burn()", x.burn(), 3);
        Check.due("burn() again", x.burn(), 0);
        Check.due("count(3)", x.count(3), 0);
        x.hidden();
        Check.due("hidden in an empty box: sign(0)", x.sign(0), 0);
        Check.due("keep(1) then", x.keep(1), 1);
        x.hidden();
        Check.due("hidden: limb(0, 0)", x.limb(0, 0), 1);
    }

    private static void hiddenIs(ChainLetters x, int above, int below, int... kinds) {
        x.burn();
        for (int kind : kinds) x.keep(kind);
        Check.due("hidden()", x.hidden(), 1);
        Check.due("hidden above", x.limb(0, 0), above);
        Check.due("hidden below", x.limb(1, 0), below);
    }

    private static void hidden() {
        ChainLetters x = new ChainLetters();
        hiddenIs(x, -1, 1);
        hiddenIs(x, 1, 1, 5);
        hiddenIs(x, 3, 1, 5, 6);
        hiddenIs(x, 6, 1, 0, 50, 99);
        hiddenIs(x, 1, 1, 5, 5);
        hiddenIs(x, 1, 1, 5, 5, 5);
        hiddenIs(x, 5, 2, 5, 5, 6);
        hiddenIs(x, 5, 1, 5, 5, 6, 7);
        hiddenIs(x, 5, 1, 5, 6, 5, 7);
        hiddenIs(x, 13, 4, 5, 5, 6, 6, 7);
        hiddenIs(x, 7, 2, 5, 5, 6, 7, 7, 7);
        hiddenIs(x, 3, 1, 5, 6, 7, 7, 7, 5, 6);
        hiddenIs(x, 3 + 1, 1, 7, 7, 7, 7, 1, 2);
        int[] all = new int[40];
        for (int i = 0; i < 40; i++) all[i] = 99 - i;
        hiddenIs(x, 40 + 20 * 39, 1, all);
    }

    private static void sign() {
        ChainLetters x = new ChainLetters();
        Check.due("sign(-1)", x.sign(-1), -2);
        Check.due("sign(3)", x.sign(3), -2);
        Check.due("sign(max)", x.sign(Integer.MAX_VALUE), -2);
        x.habit(0, 1);
        x.habit(9, 9);
        x.gone(3);
        // 10 to the 91st has 303 bits, 9 times that sum has as many.
        Check.due("sign(0)", x.sign(0), 1);
        Check.due("sign(2)", x.sign(2), 11);
        Check.due("sign(1)", x.sign(1), 10);
        x.gone(0);
        Check.due("sign(0)", x.sign(0), 0);
        Check.due("sign(1)", x.sign(1), 0);
        Check.due("sign(2)", x.sign(2), 1);
    }

    private static void limb() {
        ChainLetters x = new ChainLetters();
        Check.due("limb(0, 0)", x.limb(0, 0), -1);
        Check.due("limb(1, 0)", x.limb(1, 0), 1);
        Check.due("limb(1, 1)", x.limb(1, 1), -1);
        Check.due("limb(2, 0)", x.limb(2, 0), -2);
        Check.due("limb(-1, 0)", x.limb(-1, 0), -2);
        Check.due("limb(0, -1)", x.limb(0, -1), -2);
        Check.due("limb(1, min)", x.limb(1, Integer.MIN_VALUE), -2);
        Check.due("limb(1, max)", x.limb(1, Integer.MAX_VALUE), -1);
        x.habit(0, 1);
        x.habit(1, 99);
        x.habit(9, 0);
        x.gone(3);
        // 1000000 and 29801 less than 30 bits: by 100 to the third.
        Check.due("limb(0, 0)", x.limb(0, 0), 29701);
        Check.due("limb(1, 0)", x.limb(1, 0), 1000000);
        x.habit(1, 0);
        x.habit(8, 1);
        x.gone(3);
        // a = 1/2, b = (1 + a^8) / 2 = 257 / 512, c = (1 + b^8) / 2.
        Check.due("sign(2)", x.sign(2), 3);
        for (int i = 0; i < 2; i++) Check.due("limb(1, " + i + ")", x.limb(1, i), 0);
        Check.due("limb(1, 2)", x.limb(1, 2), 1 << 13);
        Check.due("limb(1, 3)", x.limb(1, 3), -1);
        Check.due("sign(1)", x.sign(1), 3);
        // 512^8 + 257^8, its lowest limb that of 257^8.
        Check.due("limb(0, 0)", x.limb(0, 0), java.math.BigInteger.valueOf(257).pow(8).intValue() & 0x3fffffff);
    }

    private static void count() {
        ChainLetters x = new ChainLetters();
        x.letter(0, 1);
        x.letter(0, 1);
        x.form(0, 0, 0);
        x.form(1, 7, 9);
        x.form(1, 6, 9);
        x.form(1, 6, 8);
        Check.due("count(1)", x.count(1), 3);
        x.form(1, 6, -1);
        x.name(1, 1);
        for (int i = 0; i < 4; i++) x.keep(7);
        Check.due("count(0)", x.count(0), 2);
        Check.due("count(1)", x.count(1), 2);
        Check.due("count(2)", x.count(2), 1);
        Check.due("count(3)", x.count(3), 4);
        Check.due("count(4)", x.count(4), -2);
        Check.due("count(-1)", x.count(-1), -2);
    }

    private static void digest() {
        ChainLetters x = new ChainLetters();
        x.letter(3, 77);
        x.form(0, 1, 5);
        x.form(0, 6, 0);
        x.letter(2, 4);
        x.cost(0, 2);
        x.cost(4, 7);
        x.name(2, 29);
        x.name(1, 3);
        x.habit(0, 4);
        x.habit(9, 8);
        x.asking(1, 2, 3);
        x.asking(9, 4, 5);
        x.sends(0, 1023);
        x.copies(0, 1, 2, 3);
        x.sends(9, 6);
        x.copies(9, 4, 5, 6);
        x.keep(33);
        x.keep(5);
        x.mean();
        int[][] rows = {{2, 2, 2, 2}, {3, 77, -1, 5, -1, -1, -1, -1, 0, -1}, {2, 4, -1, -1, -1, -1, -1, -1, -1, -1},
            {2, 1, 1, 1, 7}, {2, 29, 1, 3}, {4, 0, 0, 0, 0, 0, 0, 0, 0, 8},
            {2, 3, 0, 1, 0, 1, 0, 1, 0, 1, 0, 1, 0, 1, 0, 1, 4, 5}, {1023, 1, 2, 3},
            {0, 0, 0, 1, 0, 0, 0, 1, 0, 0, 0, 1, 0, 0, 0, 1, 0, 0, 0, 1, 0, 0, 0, 1, 0, 0, 0, 1, 0, 0, 0, 1},
            {6, 4, 5, 6}, {33, 5}, {2}, {1, 1, 1, 6, 1}};
        long h = 457;
        for (int[] row : rows) for (int v : row) h = 31 * h + v;
        Check.due("digest()", x.digest(), h);
        Check.due("digest() again", x.digest(), h);
    }

    private static void refusedChangesNothing() {
        ChainLetters x = new ChainLetters();
        x.letter(3, 77);
        x.form(0, 1, 5);
        x.name(2, 29);
        x.asking(1, 2, 3);
        x.best(1);
        long h = x.digest();
        x.letter(5, 4);
        x.form(0, 1, 10);
        x.form(0, 8, 1);
        x.cost(0, 10);
        x.name(2, 27);
        x.habit(0, 101);
        x.mean();
        x.gone(1);
        x.gone(4);
        x.asking(1, 4, 3);
        x.best(2);
        x.sends(0, 1024);
        x.copies(0, 1, 101, 1);
        x.copies(0, 1, 1, 0);
        x.keep(100);
        x.run(0, 5, 11);
        x.worn(0, 1, 0);
        Check.due("digest() behind what was refused", x.digest(), h);
    }
}
