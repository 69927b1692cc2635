import java.util.Random;

/** Runs of calls by drawn numbers (the same each time), each answered by the class and by the Model. */
public final class RandomRunsTest {
    private static final int[] WILD = {-1, -2, 0, 1, 7, 8, 9, 10, 11, 19, 20, 40, 99, 100, 101, 512, 531, 532, 1023,
        1024, Integer.MAX_VALUE, Integer.MIN_VALUE};

    private final Random random;
    private final ChainLetters x = new ChainLetters();
    private final Model m = new Model();
    private final String run;
    private final int mostLetters;
    private final int theme;
    private int asked;

    private RandomRunsTest(int seed, int mostLetters, int theme) {
        random = new Random(seed);
        this.mostLetters = mostLetters;
        this.theme = theme;
        run = "seed " + seed + ", letters " + mostLetters + ", theme " + theme + ": ";
    }

    public static void main(String[] args) {
        for (int seed = 0; seed < 400; seed++) {
            new RandomRunsTest(seed, 2 + seed % 4, seed % 5).go(512);
        }
        for (int seed = 1000; seed < 1040; seed++) {
            new RandomRunsTest(seed, 6, 1).go(400);
        }
        for (int seed = 2000; seed < 2012; seed++) {
            new RandomRunsTest(seed, 9, 1).go(250);
        }
        Check.end();
    }

    /** What is answered behind the 512th call is free, and a letter that is added takes nine at once. */
    private void go(int calls) {
        while (asked + 10 < calls) {
            int kind = theme == 0 ? random.nextInt(5) : random.nextInt(10) == 0 ? random.nextInt(5) : theme;
            switch (kind) {
                case 1: aboutLetters(); break;
                case 2: aboutNames(); break;
                case 3: aboutHabits(); break;
                case 4: aboutNets(); break;
                default: aboutAll(); break;
            }
        }
        due("digest()", x.digest(), m.digest());
    }

    /** A number from low to high, now and then one that is beyond them or beyond all. */
    private int near(int low, int high) {
        int draw = random.nextInt(60);
        if (draw == 0) return WILD[random.nextInt(WILD.length)];
        if (draw == 1) return low - 1;
        if (draw == 2) return high + 1;
        return low + random.nextInt(Math.max(1, high - low + 1));
    }

    private void due(String call, long got, long want) {
        asked++;
        Check.due(run + call, got, want);
    }

    private int letterThere() {
        return near(0, Math.max(0, m.count(0) - 1));
    }

    private int nameThere() {
        return near(0, Math.max(0, m.count(2) - 1));
    }

    private int someWay() {
        int draw = random.nextInt(5);
        if (draw == 0) return near(0, 531);
        if (draw == 1) return 0;
        int n = Math.max(1, m.count(0));
        if (draw == 2) return 1 + random.nextInt(n);
        return 20 + 64 * random.nextInt(n) + 8 * random.nextInt(n) + near(0, 7);
    }

    private void aboutLetters() {
        int draw = random.nextInt(40);
        if (draw < 4) addLetter();
        else if (draw < 10) tellForm(letterThere(), near(0, 7), random.nextInt(4) == 0 ? near(-1, 9) : near(-1, 2));
        else if (draw < 14) tellCost();
        else if (draw < 18) {
            int l = letterThere(), w = someWay();
            due("price(" + l + ", " + w + ")", x.price(l, w), m.price(l, w));
        } else if (draw < 20) due("least()", x.least(), m.least());
        else if (draw < 25) {
            int l = letterThere();
            due("way(" + l + ")", x.way(l), m.way(l));
        } else if (draw < 31) {
            int l = letterThere(), w = random.nextBoolean() ? m.way(letterThere()) : someWay();
            due("may(" + l + ", " + w + ")", x.may(l, w), m.may(l, w));
        } else if (draw < 35) {
            int l = letterThere();
            due("sure(" + l + ")", x.sure(l), m.sure(l));
        } else {
            int l = letterThere(), what = near(0, 1);
            due("date(" + l + ", " + what + ")", x.date(l, what), m.date(l, what));
        }
    }

    /** A letter that is like one of those there, or like two of them joined, but for a slip. */
    private void addLetter() {
        int a = near(0, 60), b = random.nextInt(20) == 0 ? near(0, 99) : near(a, 99);
        if (m.count(0) >= mostLetters) return;
        due("letter(" + a + ", " + b + ")", x.letter(a, b), m.letter(a, b));
        int n = m.count(0), cut = random.nextInt(9);
        if (n == 0 || random.nextInt(6) == 0) return;
        int like = random.nextInt(n), other = random.nextInt(n);
        for (int s = 0; s < 8; s++) {
            int from = s < cut ? like : other;
            int form = from == n - 1 || random.nextInt(6) == 0 ? random.nextInt(4) - 1 : formOf(from, s);
            tellForm(n - 1, s, form);
        }
    }

    private int formOf(int letter, int s) {
        int was = m.form(letter, s, 0);
        m.form(letter, s, was);
        return was;
    }

    private void tellForm(int l, int s, int f) {
        due("form(" + l + ", " + s + ", " + f + ")", x.form(l, s, f), m.form(l, s, f));
    }

    private void tellCost() {
        int which = random.nextInt(3) == 0 ? 4 : near(0, 4), v = random.nextBoolean() ? near(0, 3) : near(0, 9);
        due("cost(" + which + ", " + v + ")", x.cost(which, v), m.cost(which, v));
    }

    private void aboutNames() {
        int draw = random.nextInt(20);
        if (draw < 3) addName();
        else if (draw < 8) {
            int a = nameThere(), b = nameThere();
            due("slips(" + a + ", " + b + ")", x.slips(a, b), m.slips(a, b));
        } else {
            int a = nameThere(), b = nameThere(), what = near(-1, 5);
            due("worn(" + a + ", " + b + ", " + what + ")", x.worn(a, b, what), m.worn(a, b, what));
        }
    }

    private void addName() {
        int length = near(1, 6), letters = 0, few = random.nextBoolean() ? 2 : 26;
        for (int i = 0; i < Math.min(length, 6); i++) {
            letters = letters * 27 + 1 + random.nextInt(few);
        }
        if (random.nextInt(10) == 0) letters = near(0, 387420489);
        due("name(" + length + ", " + letters + ")", x.name(length, letters), m.name(length, letters));
    }

    private void aboutHabits() {
        int draw = random.nextInt(24);
        if (draw < 6) {
            int k = near(0, 9), v = random.nextInt(3) == 0 ? 0 : random.nextBoolean() ? near(0, 4) : near(0, 100);
            due("habit(" + k + ", " + v + ")", x.habit(k, v), m.habit(k, v));
        } else if (draw < 8) due("lives()", x.lives(), m.lives());
        else if (draw < 9) due("mean()", x.mean(), m.mean());
        else if (draw < 12) {
            int n = near(0, 3);
            due("gone(" + n + ")", x.gone(n), m.gone(n));
        } else if (draw < 14) {
            int a = near(1, 9), b = random.nextBoolean() ? near(1, 6) : near(1, 100);
            int c = near(0, random.nextInt(8) == 0 ? 100 : Math.max(0, Math.min(b, 100)));
            due("asking(" + a + ", " + c + ", " + b + ")", x.asking(a, c, b), m.asking(a, c, b));
        } else if (draw < 16) {
            int what = near(0, 1);
            due("best(" + what + ")", x.best(what), m.best(what));
        } else if (draw < 17) {
            int a = near(1, 9), r = near(0, 18);
            due("round(" + a + ", " + r + ")", x.round(a, r), m.round(a, r));
        } else if (draw < 19) {
            int a = near(1, 9);
            long people = random.nextBoolean() ? near(1, 40) : (long) (Math.pow(10, random.nextDouble() * 10.3));
            due("outrun(" + a + ", " + people + ")", x.outrun(a, people), m.outrun(a, people));
        } else askFraction();
    }

    private void askFraction() {
        if (random.nextInt(3) == 0) {
            int what = near(0, 2);
            due("sign(" + what + ")", x.sign(what), m.sign(what));
        } else {
            int which = near(0, 1), i = random.nextBoolean() ? near(0, 2) : near(0, 31);
            due("limb(" + which + ", " + i + ")", x.limb(which, i), m.limb(which, i));
        }
    }

    private void aboutNets() {
        int draw = random.nextInt(24);
        int person = near(0, 9);
        if (draw < 6) {
            int others = random.nextBoolean() ? near(0, 1023) : 1 << random.nextInt(10) | 1 << random.nextInt(10);
            due("sends(" + person + ", " + others + ")", x.sends(person, others), m.sends(person, others));
        } else if (draw < 12) {
            int n = near(0, random.nextBoolean() ? 3 : 9), p = random.nextInt(3) == 0 ? 100 : near(0, 100);
            int often = near(1, 9);
            due("copies(" + person + ", " + n + ", " + p + ", " + often + ")", x.copies(person, n, p, often),
                m.copies(person, n, p, often));
        } else if (draw < 17) {
            int lot = random.nextInt(), what = near(-1, 9);
            due("run(" + person + ", " + lot + ", " + what + ")", x.run(person, lot, what), m.run(person, lot, what));
        } else if (draw < 20) {
            int told = random.nextInt(3) == 0 ? 0 : near(0, 1023);
            due("reach(" + person + ", " + told + ")", x.reach(person, told), m.reach(person, told));
        } else {
            int most = near(1, random.nextBoolean() ? 10 : 5);
            due("stop(" + person + ", " + most + ")", x.stop(person, most), m.stop(person, most));
        }
    }

    private void aboutAll() {
        int draw = random.nextInt(20);
        if (draw < 7) {
            int kind = random.nextBoolean() ? near(0, 99) : near(0, 12);
            due("keep(" + kind + ")", x.keep(kind), m.keep(kind));
        } else if (draw < 8) {
            if (random.nextInt(4) == 0) due("burn()", x.burn(), m.burn());
        } else if (draw < 11) due("hidden()", x.hidden(), m.hidden());
        else if (draw < 14) {
            int what = near(0, 3);
            due("count(" + what + ")", x.count(what), m.count(what));
        } else if (draw < 16) due("digest()", x.digest(), m.digest());
        else askFraction();
    }
}
