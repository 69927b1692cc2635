/** The edges of promises 1 to 10: the last that is taken, the first that is refused, the empty and the full. */
public final class LetterEdgesTest {
    private static final int NONE = Edge.NONE, BAD = Edge.BAD, FULL = Edge.FULL, MIN = Edge.MIN, MAX = Edge.MAX;

    public static void main(String[] args) {
        newIsAsTold();
        letterTaken();
        letterRefused();
        lettersFull();
        formTaken();
        formRefused();
        costTaken();
        costRefused();
        waysThereAre();
        priceAndMayRefused();
        pricesAtTheEnds();
        cutsAtTheEnds();
        leastOfNoneAndOfAll();
        leastOfJoinedEitherWayRound();
        wayRefused();
        wayAtTheEnds();
        wayHoldsWhatIsAhead();
        mayBehindWay();
        noneFromItself();
        sureRefused();
        dateRefused();
        dateOfOneYear();
        dateOfEightInARow();
        quarrelByOneYear();
        Check.end();
    }

    private static ChainLetters of(String... forms) {
        ChainLetters x = new ChainLetters();
        for (int i = 0; i < forms.length; i++) {
            x.letter(0, 99);
            Edge.tellForms(x, i, forms[i]);
        }
        return x;
    }

    private static ChainLetters ofEmpty(int letters) {
        ChainLetters x = new ChainLetters();
        for (int i = 0; i < letters; i++) x.letter(0, 99);
        return x;
    }

    // Promise 1: "As told; nothing is there; nobody sends to anybody."
    private static void newIsAsTold() {
        ChainLetters x = new ChainLetters();
        for (int i = 0; i < 10; i++) {
            Check.due("new: way", x.way(i), -1);
            Check.due("new: sure", x.sure(i), BAD);
            Check.due("new: slips", x.slips(i, i), BAD);
            Check.due("new: reach", x.reach(i, 0), 1 << i);
            Check.due("new: stop", x.stop(i, 1), 0);
            Check.due("new: run, LAST", x.run(i, i, NONE), 0);
            for (int j = 0; j < 10; j++) Check.due("new: run, GOT", x.run(i, i, j), i == j ? 1 : 0);
        }
        Check.due("new: hidden()", x.hidden(), 1);
        Check.due("new: the fraction", x.sign(0) + 10 * x.sign(1) + 100 * x.sign(2) + 1000 * x.limb(1, 0), 1100);
        // COPIES are 0 at first: who is only told to whom he sends sends nothing.
        for (int i = 0; i < 10; i++) x.sends(i, 1023);
        for (int i = 0; i < 10; i++) Check.due("sends alone: run", x.run(i, i, NONE), 0);
        for (int i = 0; i < 10; i++) Check.due("sends alone: reach", x.reach(i, 0), 1 << i);
        for (int a = 1; a <= 9; a++) {
            ChainLetters y = new ChainLetters();
            y.asking(a, 1, 100);
            Check.due("0 of 1 at first: best beside " + a, y.best(0), a);
        }
    }

    // "dated from a YEAR to a YEAR (0 .. 99; from no later than to)"; "A LETTER without SENTENCES: its number."
    private static void letterTaken() {
        int[][] spans = {{0, 0}, {0, 1}, {0, 99}, {1, 1}, {50, 50}, {98, 99}, {99, 99}, {49, 50}};
        ChainLetters x = new ChainLetters();
        for (int i = 0; i < 8; i++) {
            Check.due("letter(" + spans[i][0] + ", " + spans[i][1] + ")", x.letter(spans[i][0], spans[i][1]), i);
            Check.due("count(0)", x.count(0), i + 1);
            Check.due("count(1)", x.count(1), 0);
            Check.due("its price as FIRST", x.price(i, 0), 0);
            for (int s = 0; s < 8; s++) Check.due("a form of a new one", x.form(i, s, NONE), NONE);
        }
        for (int i = 0; i < 8; i++) {
            Check.due("date(" + i + ", 0)", x.date(i, 0), spans[i][0]);
            Check.due("date(" + i + ", 1)", x.date(i, 1), spans[i][1]);
        }
    }

    private static void letterRefused() {
        for (int v : Edge.beyond(0, 99)) {
            Edge.refused("letter(" + v + ", 99)", BAD, x -> x.letter(v, 99));
            Edge.refused("letter(0, " + v + ")", BAD, x -> x.letter(0, v));
            Edge.refused("letter(" + v + ", " + v + ")", BAD, x -> x.letter(v, v));
        }
        int[][] later = {{1, 0}, {99, 98}, {50, 49}, {99, 0}};
        for (int[] span : later) {
            Edge.refused("letter(" + span[0] + ", " + span[1] + ")", BAD, x -> x.letter(span[0], span[1]));
        }
        // What is refused takes no number.
        ChainLetters x = new ChainLetters();
        x.letter(1, 0);
        Check.due("letter(0, 0) behind a refused one", x.letter(0, 0), 0);
        x.letter(0, 100);
        Check.due("letter(0, 0) behind two refused ones", x.letter(0, 0), 1);
    }

    // "FULL: 8."; "the first of: BAD ..; NO ..; FULL".
    private static void lettersFull() {
        int[][] spans = {{0, 0}, {0, 99}, {99, 99}, {50, 51}};
        for (int[] s : spans) {
            Edge.refusedOn("a full one", Edge::full, "letter(" + s[0] + ", " + s[1] + ")", FULL, x -> x.letter(s[0], s[1]));
        }
        // letterRefused() has BAD on a full one.
        ChainLetters x = new ChainLetters();
        for (int i = 0; i < 7; i++) x.letter(0, 0);
        Check.due("the eighth letter", x.letter(0, 0), 7);
        Check.due("the ninth letter", x.letter(0, 0), FULL);
        Check.due("the tenth letter", x.letter(0, 0), FULL);
        Check.due("count(0)", x.count(0), 8);
    }

    // "A FORM (NONE: not there): what it was." FORMS 0 .. 9, SENTENCES 0 .. 7.
    private static void formTaken() {
        ChainLetters x = new ChainLetters();
        for (int i = 0; i < 8; i++) x.letter(0, 99);
        for (int i = 0; i < 8; i++) {
            for (int s = 0; s < 8; s++) Check.due("form at first", x.form(i, s, (3 * i + s) % 10), NONE);
        }
        Check.due("count(1)", x.count(1), 64);
        for (int i = 0; i < 8; i++) {
            for (int s = 0; s < 8; s++) Check.due("form of its own", x.form(i, s, s == 3 ? NONE : 9 - s), (3 * i + s) % 10);
        }
        Check.due("count(1) less eight", x.count(1), 56);
        for (int i = 0; i < 8; i++) {
            for (int s = 0; s < 8; s++) Check.due("form then", x.form(i, s, NONE), s == 3 ? NONE : 9 - s);
        }
        Check.due("count(1) of none", x.count(1), 0);
        for (int f = 0; f <= 9; f++) {
            Check.due("form(0, 0, " + f + ")", x.form(0, 0, f), f - 1);
            Check.due("form(7, 7, " + f + ")", x.form(7, 7, f), f - 1);
        }
    }

    // "BAD: -10."
    private static void formRefused() {
        for (int v : Edge.beyond(0, 7)) {
            Edge.refused("form(0, " + v + ", 1)", -10, x -> x.form(0, v, 1));
        }
        for (int v : Edge.beyond(-1, 9)) {
            Edge.refused("form(0, 0, " + v + ")", -10, x -> x.form(0, 0, v));
            Edge.refused("form(last, 7, " + v + ")", -10, x -> x.form(Math.max(0, x.count(0) - 1), 7, v));
        }
        for (int v : new int[] {-1, MIN, MAX, 8}) {
            Edge.refused("form(" + v + ", 0, 1)", -10, x -> x.form(v, 0, 1));
        }
        // The first LETTER that is not there, for FORMS of all kinds.
        for (int f = NONE; f <= 9; f += 5) {
            int form = f;
            Edge.refused("form(count, 0, " + form + ")", -10, x -> x.form(x.count(0), 0, form));
        }
        Edge.refused("form(count, 8, 10)", -10, x -> x.form(x.count(0), 8, 10));
    }

    // "COSTS (0 .. 9; 1 each at first): DROP, WEAR, HOP, BEGIN, JOIN (0 to 4)"; "A COST: what it was."
    private static void costTaken() {
        ChainLetters x = new ChainLetters();
        for (int which = 0; which <= 4; which++) {
            int was = 1;
            for (int v : new int[] {0, 9, 1, 8, 0, 5 + which}) {
                Check.due("cost(" + which + ", " + v + ")", x.cost(which, v), was);
                was = v;
            }
        }
        for (int which = 0; which <= 4; which++) Check.due("cost of its own", x.cost(which, 0), 5 + which);
    }

    private static void costRefused() {
        for (int v : Edge.beyond(0, 4)) {
            Edge.refused("cost(" + v + ", 0)", BAD, x -> x.cost(v, 0));
            Edge.refused("cost(" + v + ", 10)", BAD, x -> x.cost(v, 10));
        }
        for (int which = 0; which <= 4; which++) {
            int w = which;
            for (int v : Edge.beyond(0, 9)) Edge.refused("cost(" + w + ", " + v + ")", BAD, x -> x.cost(w, v));
        }
    }

    private static boolean isWay(int letters, int letter, int way) {
        boolean found = way == 0;
        for (int i = 0; i < letters; i++) {
            if (i == letter) continue;
            found |= way == 1 + i;
            for (int j = 0; j < letters; j++) {
                if (j == letter || j == i) continue;
                for (int c = 1; c <= 7; c++) found |= way == Edge.joined(i, j, c);
            }
        }
        return found;
    }

    // "no such WAY (from itself, alike ones, LETTERS that are not there), too": every number from -3 to 600.
    private static void waysThereAre() {
        for (int letters = 0; letters <= 8; letters++) {
            for (int letter = 0; letter < letters; letter++) {
                ChainLetters x = null;
                for (int way = -3; way <= 600; way++) {
                    if ((way + 3) % 250 == 0) x = ofEmpty(letters);
                    boolean is = isWay(letters, letter, way);
                    String what = "of " + letters + " letters: (" + letter + ", " + way + ")";
                    Check.due("price " + what, x.price(letter, way), !is ? -1 : way < 20 ? 0 : 1);
                    // Empty letters cost nothing, however they come, but joined.
                    Check.due("may " + what, x.may(letter, way), !is ? BAD : way < 20 ? 1 : 0);
                }
            }
        }
    }

    private static void priceAndMayRefused() {
        int[] never = {-1, MIN, MAX, 9, 10, 19, 20, 28, 93, 524, 531, 532, 533, 20 + 512, 1 << 20};
        for (int way : never) {
            Edge.refused("price(0, " + way + ")", -1, x -> x.price(0, way));
            Edge.refused("may(0, " + way + ")", BAD, x -> x.may(0, way));
        }
        int[] itself = {1, Edge.joined(0, 1, 1), Edge.joined(1, 0, 7), Edge.joined(1, 1, 4), Edge.joined(1, 2, 0)};
        for (int way : itself) {
            Edge.refused("price(0, " + way + ")", -1, x -> x.price(0, way));
            Edge.refused("may(0, " + way + ")", BAD, x -> x.may(0, way));
        }
        for (int letter : new int[] {-1, MIN, MAX, 8}) {
            Edge.refused("price(" + letter + ", 0)", -1, x -> x.price(letter, 0));
            Edge.refused("may(" + letter + ", 0)", BAD, x -> x.may(letter, 0));
        }
        Edge.refused("price(count, 0)", -1, x -> x.price(x.count(0), 0));
        Edge.refused("may(count, 0)", BAD, x -> x.may(x.count(0), 0));
        Edge.refused("price(0, from the first that is not there)", -1, x -> x.price(0, 1 + x.count(0)));
        Edge.refused("may(0, from the first that is not there)", BAD, x -> x.may(0, 1 + x.count(0)));
    }

    // COSTS at their ends: nothing at all, and 8 SENTENCES of 9 each (and JOIN).
    private static void pricesAtTheEnds() {
        ChainLetters x = of("00000000", "99999999", "", "01234567");
        for (int v : new int[] {9, 0}) {
            Edge.tellCosts(x, v, v, v, v, v);
            Check.due("FIRST of eight", x.price(0, 0), 8 * v);
            Check.due("FIRST of none", x.price(2, 0), 0);
            Check.due("eight worn", x.price(0, 2), 8 * v);
            Check.due("eight hopped", x.price(0, 3), 8 * v);
            Check.due("eight dropped", x.price(2, 1), 8 * v);
            Check.due("joined, eight worn", x.price(0, Edge.joined(1, 3, 1)), 9 * v);
            Check.due("joined, seven worn", x.price(0, Edge.joined(3, 1, 1)), 8 * v);
            Check.due("joined, eight dropped", x.price(2, Edge.joined(0, 1, 4)), 9 * v);
        }
        // Each COST by itself: nothing if both are alike.
        for (int which = 0; which <= 4; which++) {
            ChainLetters y = of("12..5678", ".23.4678", ".2......");
            Edge.tellCosts(y, 0, 0, 0, 0, 0);
            y.cost(which, 9);
            // The second from the first: 1 dropped, 3 hopped, 5 worn.
            Check.due("copied, COST " + which, y.price(1, 1), which < 3 ? 9 : 0);
            Check.due("back, COST " + which, y.price(0, 2), which < 3 ? 9 : 0);
            Check.due("first, COST " + which, y.price(1, 0), which == 3 ? 54 : 0);
            Check.due("joined, COST " + which, y.price(2, Edge.joined(0, 1, 3)),
                which == 0 ? 9 + 36 : which == 4 ? 9 : 0);
        }
    }

    // "at a cut c (1 .. 7): JOIN, and SENTENCES below c as COPIED from x, the others as from y".
    private static void cutsAtTheEnds() {
        ChainLetters x = of("11111111", "22222222", "12222222", "11111112");
        Check.due("cut 1: the first from x", x.price(2, Edge.joined(0, 1, 1)), 1);
        Check.due("cut 2", x.price(2, Edge.joined(0, 1, 2)), 2);
        Check.due("cut 7: the last from y", x.price(3, Edge.joined(0, 1, 7)), 1);
        Check.due("cut 6", x.price(3, Edge.joined(0, 1, 6)), 2);
        Check.due("cut 1, the other way round", x.price(2, Edge.joined(1, 0, 1)), 9);
        Check.due("cut 7, the other way round", x.price(3, Edge.joined(1, 0, 7)), 9);
        // Each cut is the only one by which the third costs JOIN alone.
        for (int cut = 1; cut <= 7; cut++) {
            String third = "11111111".substring(0, cut) + "22222222".substring(cut);
            ChainLetters y = of("11111111", "22222222", third);
            Edge.tellCosts(y, 9, 9, 9, 1, 0);
            Check.due("least() with cut " + cut, y.least(), 16);
            Check.due("way(2) with cut " + cut, y.way(2), Edge.joined(0, 1, cut));
            Check.due("sure(2) with cut " + cut, y.sure(2), 1);
        }
    }

    // THE COST of no LETTERS, of one, of eight that cost nothing, and of eight that cost all there is.
    private static void leastOfNoneAndOfAll() {
        ChainLetters x = new ChainLetters();
        Check.due("least() of no letters", x.least(), 0);
        x.letter(0, 99);
        Check.due("least() of an empty one", x.least(), 0);
        x.form(0, 7, 0);
        Check.due("least() of one sentence", x.least(), 1);
        ChainLetters y = of("00000000", "11111111", "22222222", "33333333", "44444444", "55555555", "66666666",
            "77777777");
        Check.due("least() of eight", y.least(), 64);
        Edge.tellCosts(y, 9, 9, 9, 9, 9);
        Check.due("least() of the dearest eight", y.least(), 576);
        for (int i = 0; i < 8; i++) {
            Check.due("way", y.way(i), 0);
            Check.due("sure: copied costs as much", y.sure(i), 0);
            Check.due("may: copied from one", y.may(i, 1 + (i + 1) % 8), 1);
            Check.due("may: joined costs more", y.may(i, Edge.joined((i + 1) % 8, (i + 2) % 8, 4)), 0);
        }
        Edge.tellCosts(y, 0, 0, 0, 0, 0);
        Check.due("least() of eight that cost nothing", y.least(), 0);
        Check.due("way(7) then", y.way(7), 0);
        Check.due("may(7, joined) then", y.may(7, Edge.joined(6, 5, 7)), 1);
        Edge.tellCosts(y, 9, 9, 9, 9, 0);
        Check.due("least() if joining costs nothing", y.least(), 576);
        Check.due("may(7, joined) at 72", y.may(7, Edge.joined(6, 5, 7)), 1);
    }

    // x may be above y, and below it.
    private static void leastOfJoinedEitherWayRound() {
        ChainLetters up = of("11112222", "11111111", "22222222");
        ChainLetters down = of("11112222", "22222222", "11111111");
        for (ChainLetters x : new ChainLetters[] {up, down}) {
            x.cost(1, 9);
            Check.due("least() of two joined", x.least(), 17);
        }
        Check.due("x below y", up.way(0), Edge.joined(1, 2, 4));
        Check.due("x above y", down.way(0), Edge.joined(2, 1, 4));
    }

    // "BAD: -1."
    private static void wayRefused() {
        for (int v : new int[] {-1, 8, MIN, MAX}) Edge.refused("way(" + v + ")", -1, x -> x.way(v));
        Edge.refused("way(count)", -1, x -> x.way(x.count(0)));
        for (int n = 1; n <= 8; n++) {
            ChainLetters x = ofEmpty(n);
            Check.due("way of the last of " + n, x.way(n - 1), 0);
            Check.due("way of one more than " + n, x.way(n), -1);
        }
    }

    // The first WAY and the last: JOINED of 7 and 6 at 7 is 523.
    private static void wayAtTheEnds() {
        String[] forms = {"11111114", "", "", "", "", "", "22222224", "11111113"};
        ChainLetters x = of(forms);
        Edge.tellCosts(x, 9, 9, 9, 1, 0);
        Check.due("least()", x.least(), 16);
        Check.due("way(0), the last of all ways", x.way(0), 523);
        Check.due("may(0, 523)", x.may(0, 523), 1);
        Check.due("may(0, 522)", x.may(0, 522), 0);
        Check.due("may(0, 524)", x.may(0, 524), BAD);
        Check.due("sure(0)", x.sure(0), 1);
        Check.due("price(0, 523)", x.price(0, 523), 0);
        for (int i = 1; i < 8; i++) Check.due("way(" + i + ")", x.way(i), 0);
        ChainLetters y = of("111", "", "", "", "", "", "", "11");
        y.cost(3, 9);
        y.cost(0, 9);
        Check.due("way(0), copied from the last", y.way(0), 8);
        Check.due("way(7), copied from the first empty one", y.way(7), 2);
        y.form(7, 2, 1);
        Check.due("way(0), of like ones the first empty one", y.way(0), 2);
        Check.due("way(7), copied from the first", y.way(7), 1);
        Check.due("may(0, 8): from the last one", y.may(0, 8), 1);
        Check.due("may(7, 1): from the first one", y.may(7, 1), 1);
        Check.due("may(7, 8): from itself", y.may(7, 8), BAD);
    }

    // "THE TREE: of those with THE COST the one with the least row of WAYS by LETTERS": one tree, not each by itself.
    private static void wayHoldsWhatIsAhead() {
        ChainLetters x = of("12345678", "12345678", "12345678", "12345678", "12345678", "12345678", "12345678",
            "12345678");
        Check.due("least() of eight alike", x.least(), 8);
        Check.due("way(0) begins", x.way(0), 0);
        for (int i = 1; i < 8; i++) {
            Check.due("way(" + i + "), copied from the first", x.way(i), 1);
            Check.due("may(" + i + ", 0)", x.may(i, 0), 1);
            Check.due("sure(" + i + ")", x.sure(i), 0);
        }
        // The last one only is cheap to begin with: the first row has the first come from it by way of the second.
        ChainLetters y = of("1234567.", "1234567.", "123456..");
        y.cost(0, 9);
        Check.due("way(0), from the second", y.way(0), 2);
        Check.due("way(1), from the last", y.way(1), 3);
        Check.due("way(2), begins", y.way(2), 0);
        Check.due("may(0, 3): from the last, and the second from it", y.may(0, 3), 1);
        Check.due("may(1, 1)", y.may(1, 1), 1);
        Check.due("may(2, 1)", y.may(2, 1), 0);
        y.form(2, 6, 7);
        y.form(2, 7, 8);
        y.cost(0, 1);
        y.cost(2, 1);
        Check.due("way(0), now it begins", y.way(0), 0);
        Check.due("way(2), now it is a copy", y.way(2), 1);
    }

    // What THE TREE holds does not bind MAY and SURE, in whatever order they are asked for.
    private static void mayBehindWay() {
        ChainLetters x = of("123", "123", "123");
        for (int time = 0; time < 2; time++) {
            for (int i = 0; i < 3; i++) Check.due("way(" + i + ")", x.way(i), i == 0 ? 0 : 1);
            for (int i = 0; i < 3; i++) {
                for (int w = 0; w <= 3; w++) Check.due("may(" + i + ", " + w + ")", x.may(i, w), w == 1 + i ? BAD : 1);
                Check.due("date(" + i + ", 0)", x.date(i, 0), 0);
                Check.due("sure(" + i + ")", x.sure(i), 0);
            }
        }
        for (int i = 0; i < 3; i++) {
            ChainLetters y = of("123", "123", "123");
            y.way(0);
            Check.due("sure(" + i + ") just behind way(0)", y.sure(i), 0);
            y.cost(1, 1);
            y.way(2);
            Check.due("may(" + i + ", 0) just behind way(2)", y.may(i, 0), 1);
            y.form(i, 7, 3);
            Check.due("sure behind another form", y.sure((i + 1) % 3), 0);
            Check.due("may(" + i + ", 0) behind another form", y.may(i, 0), 0);
        }
    }

    // "none (by one or more steps) from itself": by one, by two, by eight, and by one of two joined.
    private static void noneFromItself() {
        ChainLetters two = of("1", "1");
        two.cost(3, 9);
        Check.due("least() of two alike: one begins", two.least(), 9);
        Check.due("ways of two alike", 10 * two.way(0) + two.way(1), 1);
        String[] alike = new String[8];
        for (int i = 0; i < 8; i++) alike[i] = "1";
        ChainLetters eight = of(alike);
        eight.cost(3, 9);
        Check.due("least() of eight alike: one begins", eight.least(), 9);
        ChainLetters joined = of("12", "13", "14");
        Edge.tellCosts(joined, 9, 9, 9, 9, 0);
        Check.due("least(): one begins, two are copies", joined.least(), 18 + 9 + 9);
        Check.due("way(0)", joined.way(0), 0);
        Check.due("way(1)", joined.way(1), 1);
        // Each of the first two could be joined of the other and the third for nothing, but not both.
        ChainLetters round = of("11112222", "11112222", "33332222");
        Edge.tellCosts(round, 9, 9, 9, 9, 0);
        Check.due("least(): one begins, one is half a copy", round.least(), 72 + 36);
        Check.due("may(0, joined)", round.may(0, Edge.joined(1, 2, 4)), 1);
        Check.due("may(1, joined)", round.may(1, Edge.joined(0, 2, 4)), 1);
        Check.due("ways", 100 * round.way(0) + 10 * round.way(1) + round.way(2), 11);
    }

    private static void sureRefused() {
        for (int v : new int[] {-1, 8, MIN, MAX}) Edge.refused("sure(" + v + ")", BAD, x -> x.sure(v));
        Edge.refused("sure(count)", BAD, x -> x.sure(x.count(0)));
        ChainLetters x = of("1");
        Check.due("sure(0) of the only one", x.sure(0), 1);
        x.letter(0, 99);
        // The empty one begins, or is copied from the other and drops it for 1, which costs more.
        Check.due("sure(1) of an empty one", x.sure(1), 1);
        // The first begins, or is copied from the empty one, by a hop.
        Check.due("sure(0) beside an empty one", x.sure(0), 0);
    }

    private static void dateRefused() {
        for (int v : new int[] {-1, 8, MIN, MAX}) {
            Edge.refused("date(" + v + ", 0)", BAD, x -> x.date(v, 0));
            Edge.refused("date(" + v + ", 2)", BAD, x -> x.date(v, 2));
        }
        for (int v : Edge.beyond(0, 1)) {
            Edge.refused("date(0, " + v + ")", BAD, x -> x.date(0, v));
        }
        Edge.refused("date(count, 1)", BAD, x -> x.date(x.count(0), 1));
    }

    // Spans that meet in one year, at the first YEAR and the last.
    private static void dateOfOneYear() {
        int[][] spans = {{0, 0, 0, 99}, {99, 99, 0, 99}, {0, 0, 0, 0}, {99, 99, 99, 99}, {50, 60, 40, 50}};
        int[][] due = {{0, 0, 0, 99}, {99, 99, 99, 99}, {0, 0, 0, 0}, {99, 99, 99, 99}, {50, 50, 50, 50}};
        for (int i = 0; i < spans.length; i++) {
            ChainLetters x = new ChainLetters();
            x.letter(spans[i][0], spans[i][1]);
            x.letter(spans[i][2], spans[i][3]);
            Edge.tellForms(x, 0, "12");
            Edge.tellForms(x, 1, "123");
            Check.due("the second is a copy", x.way(1), 1);
            for (int j = 0; j < 4; j++) Check.due("spans " + i + ", date " + j, x.date(j / 2, j % 2), due[i][j]);
        }
    }

    /** Each a copy of the next one, or of the one ahead of it: years go through seven steps. */
    private static void dateOfEightInARow() {
        for (boolean falling : new boolean[] {true, false}) {
            ChainLetters x = new ChainLetters();
            for (int i = 0; i < 8; i++) {
                int age = falling ? 7 - i : i;
                x.letter(age == 0 ? 30 : age, age == 7 ? 70 : 99 - age);
                for (int s = 0; s <= age; s++) x.form(i, s, 1);
            }
            x.cost(0, 9);
            for (int i = 0; i < 8; i++) {
                int age = falling ? 7 - i : i;
                Check.due("way of the " + age + "th", x.way(i), age == 0 ? 0 : falling ? i + 2 : i);
                Check.due("first year of the " + age + "th", x.date(i, 0), 30);
                Check.due("last year of the " + age + "th", x.date(i, 1), 70);
            }
        }
    }

    // "NONE: they QUARREL": by one year, by way of a letter between; NONE for all, and BAD ahead of NONE.
    private static void quarrelByOneYear() {
        for (int last = 49; last <= 50; last++) {
            ChainLetters x = quarrelling(last);
            boolean fits = last == 50;
            int[] due = {50, 50, 50, 50, 50, 50, 3, 4};
            for (int i = 0; i < 4; i++) {
                Check.due("way(" + i + ")", x.way(i), i == 3 ? 0 : i);
                Check.due("last " + last + ": date(" + i + ", 0)", x.date(i, 0), fits ? due[2 * i] : NONE);
                Check.due("last " + last + ": date(" + i + ", 1)", x.date(i, 1), fits ? due[2 * i + 1] : NONE);
            }
        }
        for (int v : Edge.beyond(0, 1)) {
            Edge.refusedOn("one that quarrels", () -> quarrelling(49), "date(0, " + v + ")", BAD, x -> x.date(0, v));
        }
        for (int v : Edge.beyond(0, 3)) {
            Edge.refusedOn("one that quarrels", () -> quarrelling(49), "date(" + v + ", 0)", BAD, x -> x.date(v, 0));
        }
        Edge.refusedOn("one that quarrels", () -> quarrelling(49), "date(0, 0)", NONE, x -> x.date(0, 0));
    }

    /** The second is copied from the first, the third from the second; the fourth stands alone. */
    private static ChainLetters quarrelling(int lastYearOfThird) {
        ChainLetters x = new ChainLetters();
        x.letter(50, 60);
        x.letter(0, 99);
        x.letter(0, lastYearOfThird);
        x.letter(3, 4);
        for (int i = 0; i < 3; i++) Edge.tellForms(x, i, "12345".substring(0, 3 + i));
        x.cost(0, 9);
        x.cost(2, 1);
        return x;
    }
}
