import java.util.Arrays;
import java.util.function.Supplier;

/**
 * Objects that are new, in use and full, and a way to show that a call is refused on them and that
 * it leaves all that can be seen of them as it was. No object is called more than 512 times.
 */
final class Edge {
    static final int NONE = -1, BAD = -2, NO = -3, FULL = -4, MIN = Integer.MIN_VALUE, MAX = Integer.MAX_VALUE;

    interface Call {
        long on(ChainLetters x);
    }

    private Edge() {
    }

    /** The first numbers that are too small and too large, and the last there are. */
    static int[] beyond(int low, int high) {
        return new int[] {low - 1, high + 1, MIN, MAX};
    }

    static int joined(int x, int y, int cut) {
        return 20 + 64 * x + 8 * y + cut;
    }

    static void tellForms(ChainLetters x, int letter, String forms) {
        for (int s = 0; s < forms.length(); s++) {
            if (forms.charAt(s) != '.') x.form(letter, s, forms.charAt(s) - '0');
        }
    }

    static void tellCosts(ChainLetters x, int... costs) {
        for (int i = 0; i < costs.length; i++) x.cost(i, costs[i]);
    }

    static int digits(String name) {
        int sum = 0;
        for (int i = 0; i < name.length(); i++) sum = sum * 27 + name.charAt(i) - '`';
        return sum;
    }

    static int tellName(ChainLetters x, String name) {
        return x.name(name.length(), digits(name));
    }

    static ChainLetters inUse() {
        ChainLetters x = new ChainLetters();
        String[] forms = {"123.....", "12345...", "12.4567."};
        int[] from = {10, 5, 20}, to = {40, 30, 90};
        for (int i = 0; i < 3; i++) {
            x.letter(from[i], to[i]);
            tellForms(x, i, forms[i]);
        }
        tellCosts(x, 2, 1, 3, 2, 0);
        tellName(x, "aaaa");
        tellName(x, "aabb");
        tellName(x, "bbbb");
        x.habit(0, 3);
        x.habit(2, 2);
        x.habit(5, 1);
        x.asking(3, 1, 4);
        x.asking(9, 1, 20);
        for (int i = 0; i < 9; i++) {
            x.sends(i, 7 << i & 1023);
            x.copies(i, 2, 60 + i, 2);
        }
        x.keep(4);
        x.keep(4);
        x.keep(9);
        x.gone(2);
        return x;
    }

    /** All that can be told is told; THE FRACTION is a large one. */
    static ChainLetters full() {
        ChainLetters x = unweighted();
        for (int k = 0; k <= 9; k++) x.habit(k, 100 - 7 * k);
        x.gone(3);
        return x;
    }

    /** Full, but without HABITS; THE FRACTION is what is hidden. */
    static ChainLetters unweighted() {
        ChainLetters x = new ChainLetters();
        for (int i = 0; i < 8; i++) {
            x.letter(5 * i, 90 + i);
            for (int s = 0; s < 8; s++) x.form(i, s, (i * s + i) % 11 - 1);
        }
        tellCosts(x, 2, 3, 1, 4, 1);
        for (int i = 0; i < 10; i++) {
            tellName(x, "abcdefghijklmnopqrstuvwxyz".substring(i, i + 1 + i % 6));
            if (i > 0) x.asking(i, i, 10 * i + 10);
            x.sends(i, 1023 - 37 * i);
            x.copies(i, i, 100 - 5 * i, 1 + i % 9);
        }
        for (int i = 0; i < 40; i++) x.keep(i * i % 100);
        x.hidden();
        return x;
    }

    /** What all calls answer that change nothing; digest() holds all that is told and THE FRACTION. */
    static long[] picture(ChainLetters x) {
        long[] seen = new long[200];
        int n = 0;
        seen[n++] = x.digest();
        for (int i = 0; i < 4; i++) {
            seen[n++] = x.count(i);
            seen[n++] = x.limb(0, i);
            seen[n++] = x.limb(1, i);
            if (i < 3) seen[n++] = x.sign(i);
        }
        seen[n++] = x.least();
        seen[n++] = x.lives();
        seen[n++] = x.best(0);
        for (int i = 0; i < 8; i++) {
            seen[n++] = x.price(i, 0);
            seen[n++] = x.price(i, 1 + (i + 1) % 8);
            seen[n++] = x.may(i, 1);
            seen[n++] = x.way(i);
            seen[n++] = x.sure(i);
            seen[n++] = x.date(i, 0);
            seen[n++] = x.date(i, 1);
        }
        for (int i = 0; i < 10; i++) {
            seen[n++] = x.slips(i, (i + 1) % 10);
            seen[n++] = x.worn(0, i, -1);
            seen[n++] = x.worn(i, 9 - i, 1);
            seen[n++] = x.run(i, 77 + i, (i + 1) % 10);
            seen[n++] = x.run(i, 5, NONE);
            seen[n++] = x.reach(i, 0);
        }
        seen[n++] = x.stop(0, 3);
        seen[n++] = x.stop(5, 1);
        return Arrays.copyOf(seen, n);
    }

    private static boolean same(String call, long[] got, long[] want) {
        for (int i = 0; i < want.length; i++) {
            if (got[i] != want[i]) {
                System.out.println(call + ": " + got[i] + " is seen at place " + i + ", where " + want[i] + " was");
                return false;
            }
        }
        return true;
    }

    /** The call answers so, again too, and all is as it was: seen ahead of it, and on one never called so. */
    static void refusedOn(String state, Supplier<ChainLetters> made, String call, long answer, Call c) {
        String what = "on " + state + ": " + call;
        ChainLetters unasked = made.get();
        Check.due(what, c.on(unasked), answer);
        long[] due = picture(made.get());
        Check.that(what + " changes nothing", same(what, picture(unasked), due));
        ChainLetters asked = made.get();
        picture(asked);
        Check.due(what + ", all seen ahead", c.on(asked), answer);
        Check.due(what + ", again", c.on(asked), answer);
        Check.that(what + " changes nothing, all seen ahead", same(what, picture(asked), due));
    }

    static void refused(String call, long answer, Call c) {
        refusedOn("a new one", ChainLetters::new, call, answer, c);
        refusedOn("one in use", Edge::inUse, call, answer, c);
        refusedOn("a full one", Edge::full, call, answer, c);
    }
}
