/** The boundary cases of ROLLS, TALES, SCHOOLS, NERVES, lotteries and news: promises 20 to 26. */
public final class BoundariesOfRollsTest {
    private static final int UNKNOWN = Bench.UNKNOWN, BAD = Bench.BAD, LATE = Bench.LATE, FULL = Bench.FULL, NONE = Bench.NONE;

    /** RATE 2, FREE 1, PRICE 3; three people on a line, with 30, 10 and no COINS. */
    private static final String LINE = "T2130325P432131P123412P005500R01R12";
    private static final String FIVE = "T1001234P123400P123400P123400P123400P123400";
    private static final String[] NOBODY = {"-1", "3", "4", "5", "LEAST", "MOST"};

    private final Bench b = new Bench("BoundariesOfRollsTest");

    public static void main(String[] args) {
        BoundariesOfRollsTest test = new BoundariesOfRollsTest();
        test.rolls();
        test.unrolled();
        test.tales();
        test.schools();
        test.braced();
        test.fairs();
        test.couriers();
        test.b.end();
    }

    /** LINE behind a few ACTS, so that there is much that could change by mistake. */
    private void lineAtWork() {
        b.make(LINE);
        b.go("declare(1, 3)", "keep(0)", "event(3)", "declare(0, 2)", "tellOn(0, 1)", "keep(1)", "roll(2, 8)", "seed(3)");
    }

    // ---- promises 20 and 21

    private void rolls() {
        b.sentence("Promise 20", "ROLLS: how many there are.");
        b.make(LINE);
        b.due("roll(0, 0)", 1);
        b.due("roll(2, 99)", 2);
        b.due("roll(2, 99)", 3);
        b.due("about(9)", 3);
        b.sentence("Promise 20", "UNKNOWN; BAD: t; FULL: 6.");
        refusedRolls();
        b.due("roll(1, 1)", 4);
        b.due("roll(1, 1)", 5);
        b.due("roll(1, 1)", 6);
        b.each("roll(1, ?)", FULL, "0", "1", "99");
        b.due("about(9)", 6);
        b.sentence("Terms 4", "Of several what is told first.");
        refusedRolls();
        b.each("roll(3, ?)", UNKNOWN, "0", "-1", "100");
        lineAtWork();
        refusedRolls();
        b.fresh();
        b.each("roll(?, 0)", UNKNOWN, "0", "-1");
        b.sentence("Terms 3", "ROLLS: that a PERSON paid t (0 .. 99) of TAX (PRICE aside),");
        paidNothing();
        paidMost();
    }

    private void refusedRolls() {
        b.each("roll(?, 0)", UNKNOWN, NOBODY);
        b.each("roll(0, ?)", BAD, "-1", "100", "LEAST", "MOST");
    }

    /** One that DECLARED what came paid no TAX, whatever PRICE it paid. */
    private void paidNothing() {
        b.make("T1091234P123490");
        b.go("roll(0, 0)");
        talesAre(4, 15, 1);
        b.go("roll(0, 9)");
        talesAre(0, 0, NONE);
        b.go("unroll()", "declare(0, 2)", "roll(0, 0)");
        talesAre(1, 4, 0);
    }

    private void paidMost() {
        b.make("T9001234P055000");
        b.go("roll(0, 90)");
        talesAre(2, 9, 0);
        b.go("unroll()", "roll(0, 91)");
        talesAre(0, 0, NONE);
        b.go("unroll()", "roll(0, 99)");
        talesAre(0, 0, NONE);
    }

    private void unrolled() {
        b.sentence("Promise 21", "Nothing is on ROLLS: how much was.");
        b.fresh();
        b.due("unroll()", 0);
        b.make(LINE);
        b.due("unroll()", 0);
        b.go("roll(2, 1)");
        b.due("unroll()", 1);
        b.due("unroll()", 0);
        b.times(7, "roll(2, 1)");
        b.due("unroll()", 6);
        b.due("about(9)", 0);
        talesAre(32, 15, 0);
        b.due("roll(2, 1)", 1);
    }

    // ---- promise 22

    private void talesAre(int fit, int kinds, int sure) {
        b.still("tales(0)", fit);
        b.still("tales(1)", kinds);
        b.still("tales(2)", sure);
    }

    private void tales() {
        b.sentence("Promise 22", "TALES: how many FIT (what = 0), which KINDS may have come (1: bits), "
            + "who surely DECLARED it (2: bits; NONE: no TALE fits). BAD.");
        talesRefused();
        b.sentence("Terms 3", "How many TALES FIT; which KINDS may have come (bits); who surely DECLARED it (of those, bits).");
        b.fresh();
        talesAre(4, 15, 0);
        b.make(FIVE);
        talesAre(128, 15, 0);
        for (int p = 0; p < 5; p++) b.go("roll(" + p + ", 0)");
        talesAre(4, 15, 31);
        b.go("roll(4, 0)");
        talesAre(4, 15, 31);
        b.go("unroll()", "roll(0, 9)", "roll(1, 0)");
        talesAre(8, 1, 2);
        b.go("roll(2, 6)");
        talesAre(0, 0, NONE);
        talesNow();
        talesOfTheGone();
        talesByNews();
    }

    private void talesRefused() {
        b.fresh();
        b.each("tales(?)", BAD, "-1", "3", "LEAST", "MOST");
        b.row("tales(?)", 4, 15, 0);
        lineAtWork();
        b.each("tales(?)", BAD, "-1", "3", "LEAST", "MOST");
        // 2 pays 18, 18, 10, 6 or nothing, never 8
        b.row("tales(?)", 0, 0, NONE);
    }

    private void talesNow() {
        b.sentence("Terms 3", "as all else is when a TALE is asked for (not as it was when it was told);");
        b.make(LINE);
        b.go("roll(0, 16)");
        talesAre(4, 8, 0);
        // now 0 EXPECTS 3 3 2 2, and pays 12 12 14 14
        b.go("event(3)");
        talesAre(0, 0, NONE);
        b.go("undo()");
        talesAre(4, 8, 0);
        b.go("declare(0, 0)");
        talesAre(0, 0, NONE);
        b.go("unroll()", "roll(0, 18)");
        talesAre(12, 14, 0);
    }

    private void talesOfTheGone() {
        b.sentence("Terms 3", "6 such at most, none at first (of those that are not there any more nothing is looked at).");
        b.fresh();
        b.due("about(9)", 0);
        b.make(LINE);
        b.go("roll(2, 99)", "roll(1, 16)");
        talesAre(0, 0, NONE);
        b.text("T2130325P432131P123412");
        b.due("realm()", 2);
        talesAre(2, 1, 0);
        b.text("T2130325P432131");
        b.due("realm()", 1);
        talesAre(8, 15, 0);
        b.text("T2130325");
        b.due("realm()", 0);
        talesAre(4, 15, 0);
        b.due("about(9)", 2);
        b.text(LINE);
        b.due("realm()", 3);
        talesAre(0, 0, NONE);
    }

    private void talesByNews() {
        b.sentence("Terms 3", "A TALE: a KIND that came, and a set of PEOPLE that had DECLARED it, of those that have not DECLARED "
            + "or HEARD anything now (others as they are): it FITS, if each of ROLLS is so.");
        b.make(LINE);
        b.go("declare(0, 3)");
        talesAre(16, 15, 0);
        b.go("tellOn(0, 1)");
        talesAre(8, 15, 0);
        b.go("roll(0, 0)");
        talesAre(2, 8, 0);
        b.go("roll(1, 4)");
        talesAre(2, 8, 0);
        b.go("roll(2, 0)");
        talesAre(1, 8, 4);
        // 1 has HEARD, and so had not DECLARED anything
        b.go("unroll()", "roll(1, 0)");
        talesAre(0, 0, NONE);
    }

    // ---- promise 23

    private void schools() {
        b.sentence("Promise 23", "SCHOOL: all SURPRISES together.");
        b.make(LINE);
        b.each("school(0, ?, 1, 0)", 5, "0", "1", "2");
        b.each("school(0, ?, 1, 3)", 8, "0", "1", "2");
        b.still("school(0, 0, 8, 33333333)", 8 + 7 + 6 + 5 + 4 + 3 + 2 + 1);
        b.still("school(0, 1, 8, 33333333)", 64);
        b.still("school(0, 2, 8, 33333333)", 8);
        b.still("school(0, 1, 8, 30000000)", 8 + 7 * 5);
        b.still("school(0, 1, 8, 0)", 40);
        b.still("school(0, 1, 8, 3)", 43);
        b.still("school(0, 1, 2, 3)", 5 + 8);
        b.still("school(0, 1, 2, 30)", 8 + 5);
        b.still("school(0, 1, 2, 33)", 16);
        schoolsRefused();
        schoolsOfAll();
    }

    private void schoolsRefused() {
        b.sentence("Promise 23", "UNKNOWN; BAD: school (0 .. 2), n, row (0 or more, n figures at most, 0 .. 3 each).");
        b.each("school(?, 0, 1, 0)", UNKNOWN, NOBODY);
        b.each("school(0, ?, 1, 0)", BAD, "-1", "3", "LEAST", "MOST");
        b.each("school(0, 0, ?, 0)", BAD, "-1", "0", "9", "10", "11", "LEAST", "MOST");
        b.each("school(0, 0, 1, ?)", BAD, "-1", "4", "5", "9", "10", "13", "LEAST", "MOST");
        b.each("school(0, 0, 2, ?)", BAD, "-1", "4", "34", "40", "43", "99", "100", "133");
        b.each("school(0, 0, 8, ?)", BAD, "-1", "4", "33333334", "33343333", "40000000", "43333333", "100000000", "133333333",
            "1000000000", "LEAST", "MOST");
        b.sentence("Terms 4", "Of several what is told first.");
        b.each("school(3, ?, 0, 4)", UNKNOWN, "-1", "3");
        b.fresh();
        b.still("school(0, 0, 1, 0)", UNKNOWN);
        lineAtWork();
        b.still("school(3, 0, 1, 0)", UNKNOWN);
        b.still("school(0, 0, 1, 4)", BAD);
    }

    private void schoolsOfAll() {
        b.sentence("Terms 3", "SCHOOL: a row of n EVENTS (1 .. 8) told; all that one SURPRISES itself in these (nothing DECLARED, "
            + "HEARD), if its HABIT learns as it does (0), does not (1), or EXPECTS behind each EVENT just what came, "
            + "by 10 tenths (2).");
        // without FREE, and RATE aside: 1, then it is EXPECTED by 10 already, then another one
        b.make("T0001234P910000");
        b.still("school(0, 0, 4, 3)", 1 + 0 + 0 + 10);
        b.still("school(0, 0, 4, 30)", 1 + 0 + 10 + 1);
        b.still("school(0, 1, 4, 30)", 1 + 1 + 10 + 1);
        b.still("school(0, 2, 4, 30)", 1 + 0 + 10 + 10);
        // 0 at least
        b.make("T0901234P910000");
        b.still("school(0, 0, 8, 0)", 0);
        b.still("school(0, 2, 8, 1010101)", 0 + 7);
        b.make(LINE);
        b.go("declare(0, 3)", "tellOn(0, 1)");
        b.still("school(0, 1, 2, 30)", 8 + 5);
        b.still("school(1, 1, 2, 30)", 5 + 8);
    }

    // ---- promise 24

    private void bracedIs(String text, int count, int least, int greatest) {
        b.make(text);
        b.still("braced(0)", count);
        b.still("braced(1)", least);
        b.still("braced(2)", greatest);
    }

    /** That there is no such set can't come up: who is of it for more of it, stays of it for still more. */
    private void braced() {
        b.sentence("Terms 3", "BRACED: a set of PEOPLE, so that one is of it just if as many as its NERVE or more of those to which "
            + "ROADS lead from it are: how many such sets there are; the least by bits, the greatest.");
        bracedIs("T0001234", 1, 0, 0);
        bracedIs("T0001234P123400", 1, 1, 1);
        bracedIs("T0001234P123401", 1, 0, 0);
        bracedIs("T0001234P123405", 1, 0, 0);
        bracedIs("T0001234P123401P123401", 1, 0, 0);
        bracedIs("T0001234P123401P123401R01", 2, 0, 3);
        bracedIs("T0001234P123401P123402R01", 1, 0, 0);
        bracedIs("T0001234P123401P123400R01", 1, 3, 3);
        String ring = "P123401P123401P123401P123401R01R02R03R04";
        bracedIs("T0001234P123404" + ring, 2, 0, 31);
        bracedIs("T0001234P123405" + ring, 1, 0, 0);
        String calm = "P123400P123400P123400P123400R01R02R03R04";
        bracedIs("T0001234P123404" + calm, 1, 31, 31);
        bracedIs("T0001234P123405" + calm, 1, 30, 30);
        bracedIs("T0001234P123401P123401P123401P123401P123405R01R23", 4, 0, 15);
        b.sentence("Promise 24", "BRACED: how many sets (what = 0), the least (1: bits), the greatest (2: bits); NONE (of 1, 2): there is "
            + "none. BAD.");
        b.each("braced(?)", BAD, "-1", "3", "LEAST", "MOST");
        b.fresh();
        b.each("braced(?)", BAD, "-1", "3");
        lineAtWork();
        b.each("braced(?)", BAD, "-1", "3");
    }

    // ---- promise 25

    private void fairs() {
        b.sentence("Terms 3", "FAIR: one stakes s COINS (1 .. 9) on a KIND: how many COINS, whole ones, must come to it at least, "
            + "if that KIND comes, so that in the mean it has its stake and its MEAN back (by ODDS); "
            + "NONE: that KIND has no ODDS.");
        b.make("T0001234P432100");
        int[][] kindLeastMost = {{0, 10, 90}, {1, 5, 45}, {2, 4, 30}, {3, 3, 23}};
        for (int[] row : kindLeastMost) {
            b.still("fair(0, " + row[0] + ", 1)", row[1]);
            b.still("fair(0, " + row[0] + ", 9)", row[2]);
        }
        b.make("T0009100P432100");
        b.each("fair(0, 0, ?)", 10, "9");
        b.each("fair(0, 0, ?)", 2, "1");
        b.each("fair(0, 1, ?)", 90, "9");
        b.each("fair(0, 2, ?)", NONE, "1", "9");
        b.each("fair(0, 3, ?)", NONE, "1", "9");
        // MEANS of 14.4 and 11: 51.3 and 24
        b.make(LINE);
        b.still("fair(0, 1, 1)", 52);
        b.still("fair(2, 3, 1)", 24);
        b.still("fair(0, 0, 1)", NONE);
        b.go("declare(0, 3)");
        b.still("fair(0, 3, 1)", 20);
        fairsRefused();
    }

    private void fairsRefused() {
        b.sentence("Promise 25", "FAIR; NONE. UNKNOWN; BAD: kind, s.");
        b.each("fair(?, 1, 1)", UNKNOWN, NOBODY);
        b.each("fair(0, ?, 1)", BAD, "-1", "4", "LEAST", "MOST");
        b.each("fair(0, 1, ?)", BAD, "-1", "0", "10", "LEAST", "MOST");
        b.each("fair(0, 0, ?)", BAD, "0", "10");
        b.sentence("Terms 4", "Of several what is told first.");
        b.each("fair(3, 4, ?)", UNKNOWN, "0", "1", "10");
        b.fresh();
        b.still("fair(0, 0, 1)", UNKNOWN);
        lineAtWork();
        b.still("fair(3, 0, 1)", UNKNOWN);
        b.still("fair(0, 4, 1)", BAD);
        b.still("fair(0, 1, 10)", BAD);
    }

    // ---- promise 26

    private void courier(String text, int want) {
        b.make(text);
        b.still("courier(0)", want);
    }

    private void couriers() {
        b.sentence("Terms 3", "COURIER: how many COINS, cut, sure news of today's EVENT is worth to one (by which it would pay nothing "
            + "at all): all that it pays in the mean by COUNSEL (its PRICE, too).");
        courier("T0091234P432100", 0);
        courier("T1991900P055000", 0);
        courier("T1999100P055000", 0);
        courier("T2995500P055000", 1);
        courier("T3995500P055000", 1);
        courier("T4995500P055000", 2);
        // 9 by DECLARING 3, 10 without
        courier("T1080019P550000", 9);
        courier("T1090019P550000", 10);
        // 9.1 without
        courier("T1080019P450100", 9);
        courier("T1090019P450100", 9);
        courier("T9090055P550000", 54);
        b.sentence("Promise 26", "COURIER. UNKNOWN; LATE: it has DECLARED.");
        b.make(LINE);
        b.still("courier(0)", 12);
        b.still("courier(1)", 11);
        b.still("courier(2)", 11);
        b.each("courier(?)", UNKNOWN, NOBODY);
        b.go("declare(0, 3)", "tellOn(0, 1)");
        b.still("courier(0)", LATE);
        // 8.6, for it has HEARD
        b.still("courier(1)", 8);
        // then 2 EXPECTS 0 0 3 7: 18, 12, 4 by ODDS 3 2 5 are 9.8
        b.go("event(3)", "event(3)");
        b.still("courier(2)", 9);
        b.fresh();
        b.each("courier(?)", UNKNOWN, "-1", "0");
    }
}
