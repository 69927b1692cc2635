/** The edges of promises 22 to 33: the last that is taken, the first that is refused, the empty and the full. */
public final class NetEdgesTest {
    private static final int NONE = Edge.NONE, BAD = Edge.BAD, FULL = Edge.FULL, MIN = Edge.MIN, MAX = Edge.MAX;

    public static void main(String[] args) {
        sendsTaken();
        sendsRefused();
        sendsNotToHimself();
        copiesTaken();
        copiesRefused();
        runRefused();
        runChangesNothing();
        runOfNobody();
        runRound();
        runByTheOdds();
        runByWrappedLots();
        runDrawsInAllCases();
        runOneCounts();
        runByNumbers();
        runOften();
        runSixtyDays();
        reachRefused();
        reachOfHimselfTold();
        reachSomeTold();
        reachByLuck();
        reachOfAll();
        stopRefused();
        stopAtTheEnds();
        stopOfLikeOnes();
        keepTaken();
        keepRefused();
        boxFull();
        burnOfNoneAndOfAll();
        hiddenAtTheEnds();
        signRefused();
        signAndLimbOfNothing();
        limbRefused();
        limbNotSoMany();
        countRefused();
        countOfAll();
        digestOfTheFull();
        Check.end();
    }

    private static int bits(int... people) {
        int b = 0;
        for (int i : people) b |= 1 << i;
        return b;
    }

    private static ChainLetters ring(int often) {
        ChainLetters x = new ChainLetters();
        for (int i = 0; i < 10; i++) {
            x.sends(i, bits((i + 1) % 10));
            x.copies(i, 1, 100, often);
        }
        return x;
    }

    // "To whom a person sends (bits; himself not looked at): what was told."
    private static void sendsTaken() {
        ChainLetters x = new ChainLetters();
        for (int i = 0; i <= 9; i++) {
            int was = 0;
            for (int v : new int[] {1023, 0, 1, 512, 1022, 511, bits(i), 1023 & ~bits(i), 100 + i}) {
                Check.due("sends(" + i + ", " + v + ")", x.sends(i, v), was);
                was = v;
            }
        }
        for (int i = 0; i <= 9; i++) Check.due("sends(" + i + ", 0)", x.sends(i, 0), 100 + i);
    }

    private static void sendsRefused() {
        for (int v : Edge.beyond(0, 9)) {
            Edge.refused("sends(" + v + ", 1)", BAD, x -> x.sends(v, 1));
            Edge.refused("sends(" + v + ", 1024)", BAD, x -> x.sends(v, 1024));
        }
        for (int i : new int[] {0, 5, 9}) {
            for (int v : Edge.beyond(0, 1023)) Edge.refused("sends(" + i + ", " + v + ")", BAD, x -> x.sends(i, v));
            Edge.refused("sends(" + i + ", 2047)", BAD, x -> x.sends(i, 2047));
        }
    }

    private static void sendsNotToHimself() {
        for (int i = 0; i <= 9; i++) {
            ChainLetters x = new ChainLetters();
            x.sends(i, bits(i));
            x.copies(i, 9, 100, 9);
            Check.due("to himself alone: LAST", x.run(i, 1, NONE), 0);
            Check.due("to himself alone: GOT", x.run(i, 1, i), 1);
            Check.due("to himself alone: REACH", x.reach(i, 0), bits(i));
            Check.due("to himself alone: what was told", x.sends(i, bits(i, (i + 9) % 10)), bits(i));
            x.copies(i, 1, 100, 9);
            // He takes no place among the first COPIES.
            Check.due("to himself and the one ahead: LAST", x.run(i, 1, NONE), 1);
            Check.due("to himself and the one ahead: GOT", x.run(i, 1, (i + 9) % 10), 1);
            Check.due("to himself and the one ahead: REACH", x.reach(i, 0), bits(i, (i + 9) % 10));
        }
    }

    // "COPIES how many (0 .. 9), with odds p by 100 (0 .. 100), at most so many times (1 .. 9; 1 at first)".
    private static void copiesTaken() {
        for (int i = 0; i <= 9; i++) {
            ChainLetters x = new ChainLetters();
            x.sends(i, 1023);
            for (int n : new int[] {9, 0, 1, 8}) {
                Check.due("copies(" + i + ", " + n + ", 100, 1)", x.copies(i, n, 100, 1), 1);
                Check.due("REACH by " + n, Integer.bitCount(x.reach(i, 0)), n + 1);
                Check.due("copies(" + i + ", " + n + ", 0, 9)", x.copies(i, n, 0, 9), 1);
                Check.due("REACH by odds 0", x.reach(i, 0), bits(i));
                Check.due("copies(" + i + ", " + n + ", 1, 9)", x.copies(i, n, 1, 9), 1);
                Check.due("REACH by odds 1", Integer.bitCount(x.reach(i, 0)), n + 1);
            }
            int other = (i + 1) % 10;
            x.sends(other, bits(i));
            x.sends(i, bits(other));
            x.copies(other, 1, 100, 9);
            for (int often : new int[] {9, 1, 8, 2}) {
                x.copies(i, 1, 100, often);
                Check.due("as often as " + often, x.run(i, 1, other), often);
            }
        }
    }

    private static void copiesRefused() {
        for (int v : Edge.beyond(0, 9)) {
            Edge.refused("copies(" + v + ", 1, 1, 1)", BAD, x -> x.copies(v, 1, 1, 1));
            Edge.refused("copies(0, " + v + ", 1, 1)", BAD, x -> x.copies(0, v, 1, 1));
            Edge.refused("copies(9, " + v + ", 1, 1)", BAD, x -> x.copies(9, v, 1, 1));
        }
        for (int i : new int[] {0, 9}) {
            for (int v : Edge.beyond(0, 100)) {
                Edge.refused("copies(" + i + ", 1, " + v + ", 1)", BAD, x -> x.copies(i, 1, v, 1));
            }
            for (int v : Edge.beyond(1, 9)) {
                Edge.refused("copies(" + i + ", 1, 1, " + v + ")", BAD, x -> x.copies(i, 1, 1, v));
            }
        }
    }

    private static void runRefused() {
        for (int v : Edge.beyond(0, 9)) {
            Edge.refused("run(" + v + ", 5, -1)", BAD, x -> x.run(v, 5, NONE));
            Edge.refused("run(" + v + ", 5, 0)", BAD, x -> x.run(v, 5, 0));
            Edge.refused("run(" + v + ", 5, 10)", BAD, x -> x.run(v, 5, 10));
        }
        for (int v : Edge.beyond(NONE, 9)) {
            Edge.refused("run(0, 5, " + v + ")", BAD, x -> x.run(0, 5, v));
            Edge.refused("run(9, 5, " + v + ")", BAD, x -> x.run(9, 5, v));
        }
    }

    /** A RUN begins anew each time: what one has told or copied in another one does not count. */
    private static void runChangesNothing() {
        ChainLetters x = ring(1);
        for (int i = 0; i < 10; i++) {
            Check.due("LAST from " + i, x.run(i, i, NONE), 10);
            Check.due("GOT of himself", x.run(i, i, i), 2);
            Check.due("GOT of the next one", x.run(i, i, (i + 1) % 10), 1);
        }
        Edge.refusedOn("a ring", () -> ring(1), "run(0, 5, -1)", 10, y -> y.run(0, 5, NONE));
    }

    // "the first counts: day 0"; "It ends when nobody got one".
    private static void runOfNobody() {
        for (int i = 0; i <= 9; i++) {
            ChainLetters x = new ChainLetters();
            Check.due("LAST of one alone", x.run(i, 7, NONE), 0);
            for (int j = 0; j <= 9; j++) Check.due("GOT of one alone", x.run(i, 7, j), i == j ? 1 : 0);
            x.sends(i, 1023);
            x.copies(i, 9, 0, 9);
            Check.due("LAST of one who throws", x.run(i, 7, NONE), 0);
            x.copies(i, 0, 100, 9);
            Check.due("LAST of one who copies for nobody", x.run(i, 7, NONE), 0);
            x.copies(i, 9, 100, 9);
            Check.due("LAST of one who tells all", x.run(i, 7, NONE), 1);
            for (int j = 0; j <= 9; j++) Check.due("GOT by one who tells all", x.run(i, 7, j), 1);
        }
    }

    // "to the first COPIES of those he sends to, by numbers from his own on (himself not), round".
    private static void runRound() {
        for (int i = 0; i <= 9; i++) {
            for (int n = 0; n <= 9; n++) {
                ChainLetters x = new ChainLetters();
                x.sends(i, 1023);
                x.copies(i, n, 100, 1);
                for (int step = 1; step <= 9; step++) {
                    String what = "from " + i + ", " + n + " copies, " + step + " on";
                    Check.due(what, x.run(i, 1, (i + step) % 10), step <= n ? 1 : 0);
                }
            }
        }
        // Who is not told is passed over.
        ChainLetters x = new ChainLetters();
        x.sends(8, bits(1, 4, 7, 8));
        x.copies(8, 2, 100, 1);
        int[] got = {0, 1, 0, 0, 1, 0, 0, 0, 1, 0};
        for (int j = 0; j <= 9; j++) Check.due("passed over: " + j, x.run(8, 1, j), got[j]);
    }

    private static int next(int lot) {
        return (int) (((lot & 0xffffffffL) * 1103515245L + 12345L) & 0xffffffffL);
    }

    private static int drawn(int lot) {
        return (int) ((lot & 0xffffffffL) / 65536 % 100);
    }

    /** The lot, from another one on, whose first draw that is. */
    private static int lotDrawing(int draw, int from) {
        for (int lot = from; lot < from + 100000; lot++) {
            if (drawn(next(lot)) == draw) return lot;
        }
        throw new IllegalStateException("no such lot");
    }

    // "if it is below p": each draw by the p that is just above it, and by itself; p 0 never, p 100 always.
    private static void runByTheOdds() {
        for (int draw = 0; draw <= 99; draw++) {
            for (int from : new int[] {0, MIN, -200000}) {
                int lot = lotDrawing(draw, from);
                ChainLetters x = new ChainLetters();
                x.sends(3, bits(4));
                for (int p : new int[] {0, draw, draw + 1, 100}) {
                    x.copies(3, 1, p, 1);
                    Check.due("lot " + lot + " draws " + draw + ", p " + p, x.run(3, lot, NONE), draw < p ? 1 : 0);
                }
            }
        }
    }

    // "LOT 1103515245 and 12345, wrapped; its bits 16 on": lots at the ends, and those that wrap to 0 and to -1.
    private static void runByWrappedLots() {
        int[] lots = {0, 1, -1, MIN, MIN + 1, MAX, MAX - 1, 1 << 16, -(1 << 16), 65535, 1 << 30, 2, -2};
        for (int lot : lots) {
            int first = drawn(next(lot)), second = drawn(next(next(lot))), third = drawn(next(next(next(lot))));
            ChainLetters x = new ChainLetters();
            for (int i = 0; i < 3; i++) x.sends(i, bits(i + 1));
            x.copies(0, 1, first + 1, 1);
            x.copies(1, 1, second + 1, 1);
            x.copies(2, 1, third + 1, 1);
            Check.due("lot " + lot + ", three draws", x.run(0, lot, NONE), 3);
            x.copies(2, 1, third, 1);
            Check.due("lot " + lot + ", the third not", x.run(0, lot, NONE), 2);
            x.copies(1, 1, second, 1);
            Check.due("lot " + lot + ", the second not", x.run(0, lot, NONE), 1);
            x.copies(0, 1, first, 1);
            Check.due("lot " + lot + ", the first not", x.run(0, lot, NONE), 0);
        }
        // By hand: -1 becomes -1103502900, whose bits from 16 on are 48697.
        ChainLetters x = new ChainLetters();
        x.sends(0, bits(1));
        x.copies(0, 1, 97, 1);
        Check.due("lot -1 draws 97", x.run(0, -1, NONE), 0);
        x.copies(0, 1, 98, 1);
        Check.due("lot -1 draws 97, below 98", x.run(0, -1, NONE), 1);
    }

    // "each draws, in all cases": who copies nobody, who has p 0, who copied as often as he may.
    private static void runDrawsInAllCases() {
        for (int lot = 0; lot < 40; lot++) {
            int three = drawn(next(next(next(lot)))), fourth = drawn(next(next(next(next(lot)))));
            ChainLetters x = new ChainLetters();
            x.sends(0, bits(1, 2));
            x.copies(0, 2, 100, 1);
            x.sends(2, bits(3));
            // 1 has p 0 and sends to nobody; still the third lot is for 2.
            x.copies(2, 1, three + 1, 1);
            Check.due("lot " + lot + ": 1 draws", x.run(0, lot, 3), 1);
            x.copies(2, 1, three, 1);
            Check.due("lot " + lot + ": 1 draws, 2 too high", x.run(0, lot, 3), 0);
            // 0 gets it back beside 2, has copied once, and draws again ahead of 2.
            ChainLetters y = new ChainLetters();
            y.sends(0, bits(1));
            y.copies(0, 1, 100, 1);
            y.sends(1, bits(0, 2));
            y.copies(1, 2, 100, 1);
            y.sends(2, bits(3));
            y.copies(2, 1, fourth + 1, 1);
            Check.due("lot " + lot + ": 0 draws once more", y.run(0, lot, 3), 1);
            Check.due("lot " + lot + ": 0 got it twice", y.run(0, lot, 0), 2);
            y.copies(2, 1, fourth, 1);
            Check.due("lot " + lot + ": 0 draws once more, 2 too high", y.run(0, lot, 3), 0);
        }
    }

    // "one counts, more are thrown": two letters on one day are one day, one draw, one time copied.
    private static void runOneCounts() {
        for (int lot = 0; lot < 40; lot++) {
            int fourth = drawn(next(next(next(next(lot)))));
            ChainLetters x = new ChainLetters();
            x.sends(0, bits(1, 2));
            x.copies(0, 2, 100, 1);
            for (int i = 1; i <= 2; i++) {
                x.sends(i, bits(3));
                x.copies(i, 1, 100, 1);
            }
            x.sends(3, bits(4, 1));
            x.sends(4, bits(3));
            x.copies(4, 1, 100, 1);
            x.copies(3, 2, fourth + 1, 1);
            Check.due("lot " + lot + ": two on one day, GOT", x.run(0, lot, 3), 2);
            Check.due("lot " + lot + ": copied once", x.run(0, lot, 4), 1);
            Check.due("lot " + lot + ": LAST", x.run(0, lot, NONE), 4);
            x.copies(3, 2, fourth, 1);
            Check.due("lot " + lot + ": one draw", x.run(0, lot, 4), 0);
            Check.due("lot " + lot + ": LAST then", x.run(0, lot, NONE), 2);
        }
    }

    // "by numbers": the least number draws first, whoever sent it to him.
    private static void runByNumbers() {
        for (int lot = 0; lot < 40; lot++) {
            ChainLetters x = new ChainLetters();
            x.sends(5, bits(0, 9, 2));
            x.copies(5, 3, 100, 1);
            int draw = next(lot);
            int[] people = {0, 2, 9}, to = {1, 3, 4};
            for (int i = 0; i < 3; i++) {
                draw = next(draw);
                x.sends(people[i], bits(to[i]));
                x.copies(people[i], 1, drawn(draw) + (i == 1 ? 0 : 1), 1);
            }
            Check.due("lot " + lot + ": 0 is first", x.run(5, lot, 1), 1);
            Check.due("lot " + lot + ": 2 is second", x.run(5, lot, 3), 0);
            Check.due("lot " + lot + ": 9 is last", x.run(5, lot, 4), 1);
        }
    }

    // "he copied less often than he may": 1 .. 9 times; who drew too high has not copied.
    private static void runOften() {
        for (int often = 1; often <= 9; often++) {
            ChainLetters x = new ChainLetters();
            x.sends(0, bits(9));
            x.sends(9, bits(0));
            x.copies(0, 1, 100, often);
            x.copies(9, 1, 100, 9);
            Check.due("GOT of 9, " + often + " times", x.run(0, 3, 9), often);
            Check.due("GOT of 0, " + often + " times", x.run(0, 3, 0), often + 1);
            Check.due("LAST, " + often + " times", x.run(0, 3, NONE), 2 * often);
        }
        // From 1: the second lot and the fourth one are for 0, who may copy once; the second is too high.
        int found = 0;
        for (int lot = 0; lot < 100; lot++) {
            int second = drawn(next(next(lot))), fourth = drawn(next(next(next(next(lot)))));
            if (second <= fourth) continue;
            found++;
            ChainLetters x = new ChainLetters();
            x.sends(1, bits(0, 2));
            x.copies(1, 2, 100, 1);
            x.sends(2, bits(0));
            x.copies(2, 1, 100, 1);
            x.sends(0, bits(5));
            x.copies(0, 1, fourth + 1, 1);
            Check.due("lot " + lot + ": too high, then copied", x.run(1, lot, 5), 1);
            Check.due("lot " + lot + ": GOT of 0", x.run(1, lot, 0), 2);
        }
        Check.that("such lots are found", found > 20);
    }

    // "or behind 60 days": 59 and 60 end by themselves, more do not come.
    private static void runSixtyDays() {
        ChainLetters six = ring(6);
        Check.due("LAST of 60", six.run(0, 1, NONE), 60);
        Check.due("GOT of the first: day 0 and day 60", six.run(0, 1, 0), 7);
        six.copies(9, 1, 100, 5);
        Check.due("LAST of 59", six.run(0, 1, NONE), 59);
        Check.due("GOT of the first then", six.run(0, 1, 0), 6);
        for (int often = 7; often <= 9; often++) {
            ChainLetters x = ring(often);
            for (int i = 0; i <= 9; i++) {
                Check.due("LAST of more than 60", x.run(i, 1, NONE), 60);
                for (int j = 0; j <= 9; j++) Check.due("GOT of more than 60", x.run(i, 1, j), i == j ? 7 : 6);
            }
        }
    }

    private static void reachRefused() {
        for (int v : Edge.beyond(0, 9)) {
            Edge.refused("reach(" + v + ", 0)", BAD, x -> x.reach(v, 0));
            Edge.refused("reach(" + v + ", 1024)", BAD, x -> x.reach(v, 1024));
        }
        for (int v : Edge.beyond(0, 1023)) {
            Edge.refused("reach(0, " + v + ")", BAD, x -> x.reach(0, v));
            Edge.refused("reach(9, " + v + ")", BAD, x -> x.reach(9, v));
        }
    }

    // "himself (always; told better he sends nothing)".
    private static void reachOfHimselfTold() {
        ChainLetters x = ring(1);
        for (int i = 0; i <= 9; i++) {
            Check.due("himself told", x.reach(i, bits(i)), bits(i));
            Check.due("all told", x.reach(i, 1023), bits(i));
            Check.due("all others told", x.reach(i, 1023 & ~bits(i)), bits(i));
            Check.due("nobody told", x.reach(i, 0), 1023);
        }
    }

    // "if some people are told better (they throw all, and are not counted)": each set of told in a ring and a star.
    private static void reachSomeTold() {
        for (int part = 0; part < 4; part++) {
            ChainLetters x = ring(9), star = new ChainLetters();
            star.sends(0, 1023);
            star.copies(0, 9, 1, 1);
            for (int told = 256 * part; told < 256 * part + 256; told++) {
                int due = 1;
                for (int i = 1; i <= 9 && (told & 1) == 0 && (told >> i & 1) == 0; i++) due |= 1 << i;
                Check.due("ring, told " + told, x.reach(0, told), due);
                Check.due("star, told " + told, star.reach(0, told), (told & 1) != 0 ? 1 : 1023 & ~told);
            }
        }
        // Who is told better keeps his place among the first COPIES: nobody gets it in his stead.
        ChainLetters y = new ChainLetters();
        y.sends(0, bits(1, 2, 3));
        y.copies(0, 2, 100, 1);
        Check.due("one of two told", y.reach(0, bits(1)), bits(0, 2));
        Check.due("both told", y.reach(0, bits(1, 2)), bits(0));
        Check.due("the third told", y.reach(0, bits(3)), bits(0, 1, 2));
    }

    // "by luck (p above 0)": 0 never, 1 as well as 100, whatever lots there are.
    private static void reachByLuck() {
        ChainLetters x = ring(1);
        for (int i = 0; i <= 9; i++) {
            x.copies(i, 1, 1, 1);
            Check.due("p 1", x.reach(0, 0), 1023);
            x.copies(i, 1, 0, 1);
            Check.due("p 0 of " + i, x.reach(0, 0), (2 << i) - 1);
            x.copies(i, 0, 100, 1);
            Check.due("no copies of " + i, x.reach(0, 0), (2 << i) - 1);
            x.copies(i, 1, 100, 1);
        }
    }

    // All by one step, all by nine, from each.
    private static void reachOfAll() {
        ChainLetters far = ring(1), near = new ChainLetters(), back = new ChainLetters();
        for (int i = 0; i <= 9; i++) {
            near.sends(i, 1023 & ~bits(i));
            near.copies(i, 9, 1, 9);
            back.sends(i, bits((i + 9) % 10));
            back.copies(i, 9, 1, 9);
        }
        for (int i = 0; i <= 9; i++) {
            Check.due("far", far.reach(i, 0), 1023);
            Check.due("near", near.reach(i, 0), 1023);
            Check.due("back", back.reach(i, 0), 1023);
            Check.due("back, cut", back.reach(i, bits((i + 5) % 10)), 1023 & ~bits((i + 1) % 10, (i + 2) % 10,
                (i + 3) % 10, (i + 4) % 10, (i + 5) % 10));
        }
    }

    private static void stopRefused() {
        for (int v : Edge.beyond(0, 9)) {
            Edge.refused("stop(" + v + ", 1)", BAD, x -> x.stop(v, 1));
            Edge.refused("stop(" + v + ", 11)", BAD, x -> x.stop(v, 11));
        }
        for (int v : Edge.beyond(1, 10)) {
            Edge.refused("stop(0, " + v + ")", BAD, x -> x.stop(0, v));
            Edge.refused("stop(9, " + v + ")", BAD, x -> x.stop(9, v));
        }
    }

    // "by which his REACH is no more than m people (1 .. 10)": just m is enough, one more is not; "not he himself".
    private static void stopAtTheEnds() {
        ChainLetters x = new ChainLetters(), star = new ChainLetters();
        for (int i = 0; i < 9; i++) {
            x.sends(i, bits(i + 1));
            x.copies(i, 1, 1, 1);
        }
        for (int i = 0; i <= 9; i++) {
            for (int m = 1; m <= 10; m++) {
                int reach = 10 - i;
                // The row breaks off at one: the least as bits is the next one to him.
                Check.due("stop(" + i + ", " + m + ") in a row", x.stop(i, m), reach <= m ? 0 : bits(i + 1));
            }
            star.sends(i, 1023);
            star.copies(i, 9, 100, 9);
        }
        for (int i = 0; i <= 9; i++) {
            star.copies(i, 0, 100, 9);
            star.copies((i + 1) % 10, 9, 100, 9);
            Check.due("stop(" + i + ", 1) of none reached", star.stop(i, 1), 0);
            star.copies(i, 9, 100, 9);
            int all = 1023 & ~bits(i);
            Check.due("stop(" + i + ", 10)", star.stop(i, 10), 0);
            Check.due("stop(" + i + ", 9)", star.stop(i, 9), all & -all);
            Check.due("stop(" + i + ", 2): the highest is left", star.stop(i, 2), all & ~Integer.highestOneBit(all));
            Check.due("stop(" + i + ", 1): all others", star.stop(i, 1), all);
        }
    }

    // "the fewest told .., of like ones the least as bits": one of a high number is fewer than two of low ones.
    private static void stopOfLikeOnes() {
        ChainLetters x = new ChainLetters();
        x.sends(0, bits(1, 2, 9));
        x.copies(0, 3, 1, 1);
        x.sends(9, bits(5, 6, 7, 8));
        x.copies(9, 9, 1, 1);
        Check.due("REACH", x.reach(0, 0), bits(0, 1, 2, 5, 6, 7, 8, 9));
        Check.due("stop(0, 8)", x.stop(0, 8), 0);
        Check.due("stop(0, 7)", x.stop(0, 7), bits(1));
        Check.due("stop(0, 6): one of a high number", x.stop(0, 6), bits(9));
        Check.due("stop(0, 3)", x.stop(0, 3), bits(9));
        Check.due("stop(0, 2): two", x.stop(0, 2), bits(1, 9));
        Check.due("stop(0, 1): three", x.stop(0, 1), bits(1, 2, 9));
        Check.due("stop(9, 4)", x.stop(9, 4), bits(5));
        // The one in the middle lets nothing through, of two that do so the least.
        ChainLetters y = new ChainLetters();
        for (int[] step : new int[][] {{9, 4}, {4, 6}, {6, 0}, {0, 1}}) {
            y.sends(step[0], bits(step[1]));
            y.copies(step[0], 1, 50, 1);
        }
        Check.due("stop(9, 5)", y.stop(9, 5), 0);
        Check.due("stop(9, 4)", y.stop(9, 4), bits(0));
        Check.due("stop(9, 3)", y.stop(9, 3), bits(0));
        Check.due("stop(9, 2)", y.stop(9, 2), bits(4));
        Check.due("stop(9, 1)", y.stop(9, 1), bits(4));
        y.sends(4, bits(6, 1));
        y.copies(4, 2, 50, 1);
        Check.due("stop(9, 3) by two ways", y.stop(9, 3), bits(4));
        Check.due("stop(9, 4) by two ways", y.stop(9, 4), bits(0));
    }

    // "A LETTER of a box of a KIND: how many."; KINDS 0 .. 99.
    private static void keepTaken() {
        ChainLetters x = new ChainLetters();
        int[] kinds = {0, 99, 1, 98, 50, 0, 99, 0};
        for (int i = 0; i < kinds.length; i++) {
            Check.due("keep(" + kinds[i] + ")", x.keep(kinds[i]), i + 1);
            Check.due("count(3)", x.count(3), i + 1);
        }
        // 0 is kept three times, 99 twice, three others once: 5 and 9 by 2.
        x.hidden();
        Check.due("hidden: above", x.limb(0, 0), 19);
        Check.due("hidden: below", x.limb(1, 0), 2);
    }

    private static void keepRefused() {
        for (int v : Edge.beyond(0, 99)) Edge.refused("keep(" + v + ")", BAD, x -> x.keep(v));
        ChainLetters x = new ChainLetters();
        x.keep(100);
        Check.due("keep(0) behind a refused one", x.keep(0), 1);
    }

    // "FULL: 40."; keepRefused() has BAD on a full one.
    private static void boxFull() {
        for (int kind : new int[] {0, 1, 50, 98, 99}) {
            Edge.refusedOn("a full one", Edge::full, "keep(" + kind + ")", FULL, x -> x.keep(kind));
        }
        ChainLetters x = new ChainLetters();
        for (int i = 1; i <= 39; i++) x.keep(99);
        Check.due("the 40th", x.keep(99), 40);
        Check.due("the 41st", x.keep(99), FULL);
        Check.due("the 42nd", x.keep(0), FULL);
        Check.due("burn()", x.burn(), 40);
        for (int i = 1; i <= 40; i++) Check.due("keep behind burn()", x.keep(i), i);
        Check.due("the 41st behind burn()", x.keep(0), FULL);
        x.hidden();
        Check.due("hidden: above", x.limb(0, 0), 40 + 20 * 39);
    }

    // "The box is empty: how many."
    private static void burnOfNoneAndOfAll() {
        Edge.refusedOn("a new one", ChainLetters::new, "burn()", 0, ChainLetters::burn);
        for (int n = 0; n <= 40; n += 8) {
            ChainLetters x = new ChainLetters();
            for (int i = 0; i < n; i++) x.keep(i);
            Check.due("burn() of " + n, x.burn(), n);
            Check.due("count(3)", x.count(3), 0);
            Check.due("burn() of none", x.burn(), 0);
            Check.due("digest()", x.digest(), new ChainLetters().digest());
            x.hidden();
            Check.due("hidden, none is kept", x.limb(0, 0), NONE);
        }
        // THE FRACTION stays, and all else.
        ChainLetters x = new ChainLetters(), y = new ChainLetters();
        for (ChainLetters z : new ChainLetters[] {x, y}) {
            z.keep(5);
            z.keep(6);
            z.hidden();
        }
        y.burn();
        Check.due("the fraction behind burn()", y.limb(0, 0), 3);
        y.keep(5);
        y.keep(6);
        Check.due("digest() as ahead of burn()", y.digest(), x.digest());
    }

    private static void hiddenIs(long above, long below, int... kinds) {
        ChainLetters x = new ChainLetters();
        for (int kind : kinds) x.keep(kind);
        Check.due("hidden()", x.hidden(), 1);
        Check.due("hidden above", x.limb(0, 0), above == 0 ? NONE : above);
        Check.due("hidden below", x.limb(1, 0), below);
        Check.due("hidden: limbs", x.sign(1) + x.sign(2), above == 0 ? 1 : 2);
        Check.due("count(3)", x.count(3), kinds.length);
    }

    // "those kept and f f by 2 g; with g 0: f (f less 1) by 2": f and g from 0 on, and KINDS kept more than twice.
    private static void hiddenAtTheEnds() {
        hiddenIs(0, 1);
        hiddenIs(1, 1, 0);
        hiddenIs(3, 1, 0, 99);
        hiddenIs(1, 1, 99, 99);
        hiddenIs(1, 1, 99, 99, 99);
        hiddenIs(2, 1, 0, 0, 99, 99);
        hiddenIs(2, 1, 0, 0, 0, 99);
        hiddenIs(4, 1, 0, 0, 0, 98, 99);
        hiddenIs(5, 2, 0, 0, 99);
        hiddenIs(5, 1, 0, 0, 98, 99);
        for (int twice = 0; twice <= 20; twice++) {
            int once = 40 - 2 * twice;
            int[] kinds = new int[40];
            for (int i = 0; i < 40; i++) kinds[i] = i < 2 * twice ? 99 - i / 2 : i - 2 * twice;
            long above = twice == 0 ? 2 * once + once * (once - 1) : 2L * twice * (once + twice) + once * once;
            long below = twice == 0 ? 2 : 2 * twice;
            long shared = java.math.BigInteger.valueOf(above).gcd(java.math.BigInteger.valueOf(below)).longValue();
            hiddenIs(above / shared, below / shared, kinds);
        }
        int[] one = new int[40];
        hiddenIs(1, 1, one);
    }

    private static void signRefused() {
        for (int v : Edge.beyond(0, 2)) Edge.refused("sign(" + v + ")", BAD, x -> x.sign(v));
    }

    // "THE FRACTION is 0 by 1 at first": no limb above, one below; it comes back to that from a larger one.
    private static void signAndLimbOfNothing() {
        ChainLetters x = new ChainLetters();
        for (int time = 0; time < 2; time++) {
            Check.due("sign(0)", x.sign(0), 0);
            Check.due("sign(1)", x.sign(1), 0);
            Check.due("sign(2)", x.sign(2), 1);
            Check.due("limb(0, 0)", x.limb(0, 0), NONE);
            Check.due("limb(1, 0)", x.limb(1, 0), 1);
            Check.due("limb(1, 1)", x.limb(1, 1), NONE);
            x.habit(0, 1);
            x.habit(9, 100);
            x.gone(3);
            Check.due("sign(0) of a larger one", x.sign(0), 1);
            Check.that("limbs of a larger one", x.sign(1) > 10 && x.sign(2) > 10);
            x.gone(0);
        }
    }

    // "BAD: i below 0, too."
    private static void limbRefused() {
        for (int v : Edge.beyond(0, 1)) {
            for (int i : new int[] {0, -1, MAX}) Edge.refused("limb(" + v + ", " + i + ")", BAD, x -> x.limb(v, i));
        }
        for (int i : new int[] {-1, -2, MIN}) {
            Edge.refused("limb(0, " + i + ")", BAD, x -> x.limb(0, i));
            Edge.refused("limb(1, " + i + ")", BAD, x -> x.limb(1, i));
        }
    }

    // "NONE: not so many."; digits to the base 1073741824: the last that is one limb and the first that is two.
    private static void limbNotSoMany() {
        for (int which = 0; which <= 1; which++) {
            int w = which;
            for (int i : new int[] {40, 41, MAX}) {
                Edge.refused("limb(" + w + ", " + i + ")", NONE, x -> x.limb(w, i));
            }
            Edge.refused("limb(" + w + ", size)", NONE, x -> x.limb(w, x.sign(1 + w)));
        }
        // Half are thrown, half make k: below stands 2 to the power 1, 1 and k, 1 and k and k k.
        for (int k = 1; k <= 9; k++) {
            ChainLetters x = new ChainLetters();
            x.habit(0, 50);
            x.habit(k, 50);
            for (int n = 1; n <= 3; n++) {
                int power = n == 1 ? 1 : n == 2 ? 1 + k : 1 + k + k * k;
                x.gone(n);
                int limbs = power / 30 + 1;
                Check.due("2 to the power " + power + ": limbs", x.sign(2), limbs);
                for (int i = 0; i < limbs; i++) {
                    Check.due("2 to the power " + power + ": limb " + i, x.limb(1, i), i + 1 < limbs ? 0 : 1 << power % 30);
                }
                Check.due("2 to the power " + power + ": one limb more", x.limb(1, limbs), NONE);
                for (int i = 0; i < x.sign(1); i++) {
                    Check.that("a limb above is one", x.limb(0, i) >= 0 && x.limb(0, i) < 1073741824);
                }
                Check.that("the highest limb above is not 0", x.limb(0, x.sign(1) - 1) > 0);
            }
        }
    }

    private static void countRefused() {
        for (int v : Edge.beyond(0, 3)) Edge.refused("count(" + v + ")", BAD, x -> x.count(v));
    }

    private static void countOfAll() {
        ChainLetters x = Edge.full();
        int[] due = {8, 0, 10, 40};
        for (int i = 0; i < 8; i++) for (int s = 0; s < 8; s++) due[1] += (i * s + i) % 11 == 0 ? 0 : 1;
        for (int what = 0; what <= 3; what++) {
            Check.due("count(" + what + ") of a full one", x.count(what), due[what]);
            Check.due("count(" + what + ") of a new one", new ChainLetters().count(what), 0);
        }
        for (int i = 0; i < 8; i++) for (int s = 0; s < 8; s++) x.form(i, s, 0);
        Check.due("count(1) of all", x.count(1), 64);
    }

    // The digest of a full one, by the numbers that Edge.full() tells.
    private static void digestOfTheFull() {
        ChainLetters x = Edge.full();
        long h = 457;
        for (int what = 0; what <= 3; what++) h = 31 * h + x.count(what);
        for (int i = 0; i < 8; i++) {
            h = 31 * h + 5 * i;
            h = 31 * h + 90 + i;
            for (int s = 0; s < 8; s++) h = 31 * h + (i * s + i) % 11 - 1;
        }
        for (int c : new int[] {2, 3, 1, 4, 1}) h = 31 * h + c;
        for (int i = 0; i < 10; i++) {
            h = 31 * h + 1 + i % 6;
            h = 31 * h + Edge.digits("abcdefghijklmnopqrstuvwxyz".substring(i, i + 1 + i % 6));
        }
        for (int k = 0; k <= 9; k++) h = 31 * h + 100 - 7 * k;
        for (int a = 1; a <= 9; a++) h = 31 * (31 * h + a) + 10 * a + 10;
        for (int i = 0; i < 10; i++) {
            for (int v : new int[] {1023 - 37 * i, i, 100 - 5 * i, 1 + i % 9}) h = 31 * h + v;
        }
        for (int i = 0; i < 40; i++) h = 31 * h + i * i % 100;
        h = 31 * h + x.least();
        for (int what = 0; what <= 2; what++) h = 31 * h + x.sign(what);
        for (int which = 0; which <= 1; which++) {
            for (int i = 0; i < x.sign(1 + which); i++) h = 31 * h + x.limb(which, i);
        }
        Check.due("digest() of a full one", x.digest(), h);
        Check.due("digest() again", x.digest(), h);
        Check.that("it has many limbs", x.sign(1) > 10 && x.sign(2) > 10);
        // Each number by itself shows in it.
        long was = x.digest();
        x.form(7, 7, x.form(7, 7, 9) == 0 ? 1 : 0);
        Check.that("another form shows", x.digest() != was);
        was = x.digest();
        x.gone(2);
        Check.that("another fraction shows", x.digest() != was);
        was = x.digest();
        x.burn();
        Check.that("an empty box shows", x.digest() != was);
    }
}
