/** Promises 1 to 10: a new object, letters and their trees. */
public final class LettersTest {
    private static final int DROP = 0, WEAR = 1, HOP = 2, BEGIN = 3, JOIN = 4;

    public static void main(String[] args) {
        newObject();
        letter();
        form();
        cost();
        price();
        priceOfJoined();
        noSuchWay();
        least();
        leastIsATree();
        way();
        wayIsTheLeastRow();
        wayFromAnEmptyOne();
        mayAndSure();
        mayIsNotFromItself();
        date();
        dateOfJoined();
        quarrel();
        Check.end();
    }

    /** A letter of the span 0 to 99 with a form for each digit; '.' stands for not there. */
    private static int add(ChainLetters x, String forms) {
        return add(x, forms, 0, 99);
    }

    private static int add(ChainLetters x, String forms, int from, int to) {
        int letter = x.letter(from, to);
        for (int s = 0; s < forms.length(); s++) {
            if (forms.charAt(s) != '.') x.form(letter, s, forms.charAt(s) - '0');
        }
        return letter;
    }

    private static int joined(int x, int y, int c) {
        return 20 + 64 * x + 8 * y + c;
    }

    private static void newObject() {
        ChainLetters x = new ChainLetters();
        for (int what = 0; what <= 3; what++) Check.due("new: count(" + what + ")", x.count(what), 0);
        Check.due("new: least()", x.least(), 0);
        Check.due("new: way(0)", x.way(0), -1);
        Check.due("new: sign(0)", x.sign(0), 0);
        Check.due("new: sign(1)", x.sign(1), 0);
        Check.due("new: sign(2)", x.sign(2), 1);
        Check.due("new: limb(0, 0)", x.limb(0, 0), -1);
        Check.due("new: limb(1, 0)", x.limb(1, 0), 1);
        Check.due("new: lives()", x.lives(), 0);
        Check.due("new: best(0)", x.best(0), 1);
        Check.due("new: burn()", x.burn(), 0);
        for (int k = 0; k <= 9; k++) Check.due("new: habit(" + k + ", 0)", x.habit(k, 0), 0);
        for (int i = 0; i <= 9; i++) Check.due("new: sends(" + i + ", 0)", x.sends(i, 0), 0);
        for (int i = 0; i <= 4; i++) Check.due("new: cost(" + i + ", 1)", x.cost(i, 1), 1);
        long h = 457;
        for (int i = 0; i < 4; i++) h *= 31;
        for (int i = 0; i < 5; i++) h = 31 * h + 1;
        for (int i = 0; i < 10; i++) h *= 31;
        for (int i = 0; i < 9; i++) h = 31 * (31 * h) + 1;
        for (int i = 0; i < 10; i++) h = 31 * 31 * 31 * 31 * h + 1;
        h = 31 * h;
        h = 31 * (31 * (31 * h)) + 1;
        h = 31 * h + 1;
        Check.due("new: digest()", x.digest(), h);
    }

    private static void letter() {
        ChainLetters x = new ChainLetters();
        Check.due("letter(-1, 5)", x.letter(-1, 5), -2);
        Check.due("letter(5, 100)", x.letter(5, 100), -2);
        Check.due("letter(100, 100)", x.letter(100, 100), -2);
        Check.due("letter(6, 5)", x.letter(6, 5), -2);
        Check.due("letter(min, 5)", x.letter(Integer.MIN_VALUE, 5), -2);
        Check.due("letter(5, min)", x.letter(5, Integer.MIN_VALUE), -2);
        Check.due("count(0)", x.count(0), 0);
        int[][] spans = {{0, 0}, {0, 99}, {99, 99}, {5, 5}, {3, 4}, {0, 1}, {98, 99}, {50, 60}};
        for (int i = 0; i < 8; i++) {
            Check.due("letter " + i, x.letter(spans[i][0], spans[i][1]), i);
            for (int s = 0; s < 8; s++) Check.due("form of a new one", x.form(i, s, -1), -1);
        }
        Check.due("the ninth letter(0, 1)", x.letter(0, 1), -4);
        Check.due("the ninth letter(1, 0)", x.letter(1, 0), -2);
        Check.due("count(0)", x.count(0), 8);
    }

    private static void form() {
        ChainLetters x = new ChainLetters();
        Check.due("form(0, 0, 0) of none", x.form(0, 0, 0), -10);
        x.letter(0, 99);
        Check.due("form(0, 0, 9)", x.form(0, 0, 9), -1);
        Check.due("form(0, 0, 0)", x.form(0, 0, 0), 9);
        Check.due("form(0, 0, -1)", x.form(0, 0, -1), 0);
        Check.due("form(0, 7, 3)", x.form(0, 7, 3), -1);
        Check.due("form(0, 7, 3)", x.form(0, 7, 3), 3);
        Check.due("form(0, 7, 10)", x.form(0, 7, 10), -10);
        Check.due("form(0, 7, -2)", x.form(0, 7, -2), -10);
        Check.due("form(0, 8, 1)", x.form(0, 8, 1), -10);
        Check.due("form(0, -1, 1)", x.form(0, -1, 1), -10);
        Check.due("form(1, 7, 1)", x.form(1, 7, 1), -10);
        Check.due("form(-1, 7, 1)", x.form(-1, 7, 1), -10);
        Check.due("form(0, 7, 3) still", x.form(0, 7, 3), 3);
        Check.due("count(1)", x.count(1), 1);
    }

    private static void cost() {
        ChainLetters x = new ChainLetters();
        for (int i = 0; i <= 4; i++) {
            Check.due("cost(i, 9)", x.cost(i, 9), 1);
            Check.due("cost(i, 10)", x.cost(i, 10), -2);
            Check.due("cost(i, -1)", x.cost(i, -1), -2);
            Check.due("cost(i, 0)", x.cost(i, 0), 9);
            Check.due("cost(i, i)", x.cost(i, i), 0);
        }
        Check.due("cost(5, 1)", x.cost(5, 1), -2);
        Check.due("cost(-1, 1)", x.cost(-1, 1), -2);
        for (int i = 0; i <= 4; i++) Check.due("cost(i, 1) of its own", x.cost(i, 1), i);
    }

    private static void costs(ChainLetters x, int drop, int wear, int hop, int begin, int join) {
        x.cost(DROP, drop);
        x.cost(WEAR, wear);
        x.cost(HOP, hop);
        x.cost(BEGIN, begin);
        x.cost(JOIN, join);
    }

    private static void price() {
        ChainLetters x = new ChainLetters();
        add(x, "12345.0.");
        add(x, "12.67892");
        costs(x, 2, 3, 5, 7, 9);
        // One like the other: 1 2; the newer one has not: 3; worn: 4 5 and the 0; hopped: 8 and 2.
        Check.due("price(1, 1)", x.price(1, 1), 2 + 3 * 3 + 2 * 5);
        Check.due("price(0, 2)", x.price(0, 2), 5 + 3 * 3 + 2 * 2);
        Check.due("price(0, 0)", x.price(0, 0), 6 * 7);
        Check.due("price(1, 0)", x.price(1, 0), 7 * 7);
        x.form(1, 0, -1);
        Check.due("price(1, 0) less one", x.price(1, 0), 6 * 7);
        Check.due("price(1, 1) and a drop", x.price(1, 1), 2 + 3 * 3 + 2 * 5 + 2);
        x.cost(DROP, 0);
        Check.due("price(1, 1) by another cost", x.price(1, 1), 3 * 3 + 2 * 5);
        x.letter(0, 0);
        Check.due("price(2, 0) of an empty one", x.price(2, 0), 0);
        Check.due("price(2, 1) of an empty one", x.price(2, 1), 0);
        Check.due("price(0, 3) from an empty one", x.price(0, 3), 6 * 5);
    }

    private static void priceOfJoined() {
        ChainLetters x = new ChainLetters();
        add(x, "11111111");
        add(x, "22222222");
        add(x, "11122222");
        costs(x, 2, 3, 5, 7, 9);
        for (int c = 1; c <= 7; c++) {
            Check.due("price of 0 and 1 at " + c, x.price(2, joined(0, 1, c)), 9 + 3 * Math.abs(c - 3));
            Check.due("price of 1 and 0 at " + c, x.price(2, joined(1, 0, c)), 9 + 3 * (8 - Math.abs(c - 3)));
        }
        Check.due("price(0, of 1 and 2 at 3)", x.price(0, joined(1, 2, 3)), 9 + 8 * 3);
        Check.due("price(0, of 2 and 1 at 3)", x.price(0, joined(2, 1, 3)), 9 + 5 * 3);
    }

    private static void noSuchWay() {
        ChainLetters x = new ChainLetters();
        Check.due("price(0, 0) of none", x.price(0, 0), -1);
        Check.due("may(0, 0) of none", x.may(0, 0), -2);
        add(x, "1");
        add(x, "12");
        add(x, "123");
        int[] not = {-1, 1, 4, 8, 9, 19, 20, 532, 533, Integer.MAX_VALUE, Integer.MIN_VALUE, joined(1, 2, 0),
            joined(0, 1, 2), joined(1, 0, 2), joined(1, 1, 3), joined(2, 2, 3), joined(1, 3, 3), joined(3, 1, 3),
            joined(7, 6, 7), joined(1, 2, 8), joined(1, 2, -1)};
        for (int way : not) {
            Check.due("price(0, " + way + ")", x.price(0, way), -1);
            Check.due("may(0, " + way + ")", x.may(0, way), -2);
        }
        int[] there = {0, 2, 3, joined(1, 2, 1), joined(1, 2, 7), joined(2, 1, 1), joined(2, 1, 7)};
        for (int way : there) {
            Check.that("price(0, " + way + ") is one", x.price(0, way) >= 0);
            Check.that("may(0, " + way + ") is one", x.may(0, way) >= 0);
        }
        Check.due("price(3, 0)", x.price(3, 0), -1);
        Check.due("price(-1, 0)", x.price(-1, 0), -1);
        Check.due("may(3, 0)", x.may(3, 0), -2);
        Check.due("may(-1, 0)", x.may(-1, 0), -2);
        ChainLetters all = ofEight();
        int ways = 0;
        for (int way = -10; way <= 600; way++) {
            if (way == 300) all = ofEight();
            ways += all.price(7, way) == -1 ? 0 : 1;
        }
        Check.due("ways of one of eight", ways, 1 + 7 + 7 * 6 * 7);
        Check.due("price(0, 531)", all.price(0, 531), -1);
        Check.due("price(0, of 7 and 6 at 7)", all.price(0, joined(7, 6, 7)), 1);
    }

    private static ChainLetters ofEight() {
        ChainLetters x = new ChainLetters();
        for (int i = 0; i < 8; i++) x.letter(0, 99);
        return x;
    }

    private static void least() {
        ChainLetters x = new ChainLetters();
        x.letter(0, 99);
        Check.due("least() of an empty one", x.least(), 0);
        x.form(0, 3, 4);
        x.form(0, 4, 4);
        Check.due("least() of one", x.least(), 2);
        add(x, "...45");
        Check.due("least() of two", x.least(), 3);
        x.cost(WEAR, 9);
        Check.due("least() of two unlike ones", x.least(), 4);
        x.cost(BEGIN, 6);
        Check.due("least() by dear beginnings", x.least(), 12 + 9);
        x.cost(JOIN, 0);
        Check.due("least() by cheap joinings", x.least(), 12 + 9);
        add(x, "...44");
        Check.due("least() with a like one", x.least(), 12 + 9);
    }

    /** Each letter is the cheaper one's copy just once: somebody has to begin. */
    private static void leastIsATree() {
        ChainLetters x = new ChainLetters();
        add(x, "11111111");
        add(x, "11111112");
        add(x, "11111122");
        Check.due("least() of a chain", x.least(), 8 + 1 + 1);
        add(x, "33333333");
        Check.due("least() and a stranger", x.least(), 10 + 8);
        x.cost(BEGIN, 0);
        Check.due("least() of four beginnings", x.least(), 0);
        x.cost(BEGIN, 9);
        Check.due("least() of one beginning", x.least(), 72 + 1 + 1 + 8);
        ChainLetters y = new ChainLetters();
        add(y, "11112222");
        add(y, "11111111");
        add(y, "22222222");
        y.cost(BEGIN, 2);
        y.cost(WEAR, 3);
        Check.due("least() of one joined", y.least(), 16 + 16 + 1);
        y.cost(JOIN, 9);
        Check.due("least() if joining is dear", y.least(), 16 + 12 + 12);
    }

    private static void way() {
        ChainLetters x = new ChainLetters();
        add(x, "11112222");
        add(x, "11111111");
        add(x, "22222222");
        x.cost(BEGIN, 1);
        x.cost(WEAR, 3);
        Check.due("way(0)", x.way(0), joined(1, 2, 4));
        Check.due("way(1)", x.way(1), 0);
        Check.due("way(2)", x.way(2), 0);
        Check.due("way(3)", x.way(3), -1);
        Check.due("way(-1)", x.way(-1), -1);
        Check.due("way(max)", x.way(Integer.MAX_VALUE), -1);
        x.cost(JOIN, 9);
        Check.due("way(0) if joining is dear", x.way(0), 0);
        x.form(0, 3, 2);
        x.form(1, 3, 2);
        Check.due("way(0) by another form", x.way(0), 0);
        x.cost(BEGIN, 2);
        Check.due("way(0), of like ones the least", x.way(0), 0);
        Check.due("way(1), copied from the first", x.way(1), 1);
        Check.due("way(2), copied from the first", x.way(2), 1);
        x.form(0, 7, -1);
        x.cost(DROP, 0);
        x.cost(HOP, 9);
        x.form(1, 0, 9);
        Check.due("way(0), copied from the third", x.way(0), 3);
        Check.due("way(2), where all begins", x.way(2), 0);
    }

    private static void wayIsTheLeastRow() {
        ChainLetters x = new ChainLetters();
        add(x, "123");
        add(x, "123");
        add(x, "123");
        // The first one begins, the others are copied, of like ones from the least.
        Check.due("way(0)", x.way(0), 0);
        Check.due("way(1)", x.way(1), 1);
        Check.due("way(2)", x.way(2), 1);
        x.cost(BEGIN, 0);
        Check.due("way(1) if beginning costs nothing", x.way(1), 0);
        ChainLetters y = new ChainLetters();
        add(y, "12");
        add(y, "1");
        // One must be copied: the first as copied costs 1 and 1, as the beginning 2 and 1.
        Check.due("way(0)", y.way(0), 2);
        Check.due("way(1)", y.way(1), 0);
        y.cost(HOP, 2);
        Check.due("way(0) as dear", y.way(0), 0);
        Check.due("way(1) then", y.way(1), 0);
        y.cost(DROP, 0);
        Check.due("way(0) now", y.way(0), 0);
        Check.due("way(1) now", y.way(1), 1);
        ChainLetters z = new ChainLetters();
        for (int i = 0; i < 3; i++) add(z, "11111111");
        z.cost(JOIN, 0);
        Check.due("way(2), copied ahead of joined", z.way(2), 1);
        ChainLetters j = new ChainLetters();
        add(j, "1111....");
        add(j, "....1111");
        add(j, "11112111");
        j.cost(JOIN, 0);
        j.cost(BEGIN, 2);
        Check.due("way(2), the least cut", j.way(2), joined(0, 1, 4));
    }

    private static void wayFromAnEmptyOne() {
        ChainLetters x = new ChainLetters();
        add(x, "123", 0, 50);
        x.cost(BEGIN, 5);
        Check.due("least() of one", x.least(), 15);
        Check.due("way(0) of one", x.way(0), 0);
        Check.due("date(0, 0) of one", x.date(0, 0), 0);
        x.letter(3, 4);
        Check.due("least() with an empty one", x.least(), 3);
        Check.due("way(0) with an empty one", x.way(0), 2);
        Check.due("way(1), the empty one", x.way(1), 0);
        Check.due("date(0, 0) with an empty one", x.date(0, 0), 3);
        Check.due("date(1, 1), the empty one", x.date(1, 1), 4);
        x.letter(5, 60);
        Check.due("date(2, 0), another empty one", x.date(2, 0), 5);
        Check.due("date(2, 1), another empty one", x.date(2, 1), 60);
    }

    private static void mayAndSure() {
        ChainLetters x = new ChainLetters();
        add(x, "123");
        Check.due("sure(0) of one", x.sure(0), 1);
        add(x, "123");
        Check.due("may(0, 0)", x.may(0, 0), 1);
        Check.due("may(0, 2)", x.may(0, 2), 1);
        Check.due("may(1, 0)", x.may(1, 0), 1);
        Check.due("may(1, 1)", x.may(1, 1), 1);
        Check.due("sure(0)", x.sure(0), 0);
        Check.due("sure(1)", x.sure(1), 0);
        x.form(0, 3, 4);
        Check.due("may(1, 0): both then cost 4", x.may(1, 0), 1);
        Check.due("may(1, 1): the first began with 4", x.may(1, 1), 0);
        Check.due("sure(1)", x.sure(1), 1);
        Check.due("may(0, 2)", x.may(0, 2), 1);
        Check.due("sure(0)", x.sure(0), 1);
        Check.due("sure(2)", x.sure(2), -2);
        Check.due("sure(-1)", x.sure(-1), -2);
        ChainLetters y = new ChainLetters();
        add(y, "1111....");
        add(y, "....1111");
        add(y, "1111.111");
        y.cost(JOIN, 0);
        y.cost(BEGIN, 2);
        y.cost(HOP, 2);
        Check.due("may(2, at 4)", y.may(2, joined(0, 1, 4)), 0);
        Check.due("may(2, at 5)", y.may(2, joined(0, 1, 5)), 1);
        Check.due("may(2, the other way round)", y.may(2, joined(1, 0, 5)), 0);
        Check.due("sure(2)", y.sure(2), 1);
        y.form(1, 4, -1);
        Check.due("may(2, at 4) now", y.may(2, joined(0, 1, 4)), 1);
        Check.due("may(2, at 5) now", y.may(2, joined(0, 1, 5)), 1);
        Check.due("sure(2) now", y.sure(2), 0);
    }

    private static void mayIsNotFromItself() {
        ChainLetters x = new ChainLetters();
        add(x, "11111111");
        add(x, "11111112");
        add(x, "11111122");
        // The middle one may come from either, but both come from it then, or none.
        Check.due("may(0, 2)", x.may(0, 2), 1);
        Check.due("may(2, 2)", x.may(2, 2), 1);
        Check.due("may(1, 1)", x.may(1, 1), 1);
        Check.due("may(1, 3)", x.may(1, 3), 1);
        Check.due("may(1, 0)", x.may(1, 0), 1);
        Check.due("may(0, 3)", x.may(0, 3), 0);
        Check.due("may(2, 1)", x.may(2, 1), 0);
        Check.due("way(0)", x.way(0), 0);
        Check.due("way(1)", x.way(1), 1);
        Check.due("way(2)", x.way(2), 2);
        Check.due("least()", x.least(), 10);
    }

    private static void date() {
        ChainLetters x = new ChainLetters();
        add(x, "123", 10, 40);
        add(x, "12345", 5, 30);
        add(x, "1234567", 20, 90);
        // The first begins, each is a copy of the one ahead of it.
        int[] first = {10, 10, 20}, last = {30, 30, 90};
        for (int i = 0; i < 3; i++) {
            Check.due("date(" + i + ", 0)", x.date(i, 0), first[i]);
            Check.due("date(" + i + ", 1)", x.date(i, 1), last[i]);
        }
        Check.due("date(0, 2)", x.date(0, 2), -2);
        Check.due("date(0, -1)", x.date(0, -1), -2);
        Check.due("date(3, 0)", x.date(3, 0), -2);
        Check.due("date(-1, 0)", x.date(-1, 0), -2);
        ChainLetters y = new ChainLetters();
        add(y, "1234567", 7, 15);
        add(y, "12345", 5, 30);
        add(y, "123", 4, 90);
        // The newest stands first: its last year binds the ones it came from, step by step.
        Check.due("ways", y.way(0) * 100 + y.way(1) * 10 + y.way(2), 230);
        Check.due("date(2, 1)", y.date(2, 1), 15);
        Check.due("date(1, 1)", y.date(1, 1), 15);
        Check.due("date(0, 1)", y.date(0, 1), 15);
        Check.due("date(2, 0)", y.date(2, 0), 4);
        Check.due("date(1, 0)", y.date(1, 0), 5);
        Check.due("date(0, 0)", y.date(0, 0), 7);
    }

    private static void dateOfJoined() {
        ChainLetters x = new ChainLetters();
        add(x, "11112222", 0, 50);
        add(x, "11111111", 20, 90);
        add(x, "22222222", 30, 40);
        x.cost(WEAR, 9);
        Check.due("way(0)", x.way(0), joined(1, 2, 4));
        Check.due("date(0, 0)", x.date(0, 0), 30);
        Check.due("date(0, 1)", x.date(0, 1), 50);
        Check.due("date(1, 0)", x.date(1, 0), 20);
        Check.due("date(1, 1)", x.date(1, 1), 50);
        Check.due("date(2, 1)", x.date(2, 1), 40);
        x.cost(JOIN, 9);
        Check.due("date(0, 0) alone", x.date(0, 0), 0);
        Check.due("date(1, 1) alone", x.date(1, 1), 90);
    }

    private static void quarrel() {
        ChainLetters x = new ChainLetters();
        add(x, "123", 10, 20);
        add(x, "1234", 0, 10);
        Check.due("date(0, 1) in one year", x.date(0, 1), 10);
        Check.due("date(1, 0) in one year", x.date(1, 0), 10);
        add(x, "12345", 0, 9);
        add(x, ".......1", 3, 4);
        for (int i = 0; i < 4; i++) {
            Check.due("date(" + i + ", 0) of those that quarrel", x.date(i, 0), -1);
            Check.due("date(" + i + ", 1) of those that quarrel", x.date(i, 1), -1);
        }
        Check.due("date(4, 0)", x.date(4, 0), -2);
        x.form(2, 0, 9);
        x.cost(BEGIN, 0);
        Check.due("date(3, 0) without a quarrel", x.date(3, 0), 3);
        Check.due("date(2, 1) without a quarrel", x.date(2, 1), 9);
    }
}
