/** The boundary cases of what is paid, should be DECLARED and may come: promises 12 to 19. */
public final class BoundariesOfPaymentsTest {
    private static final int UNKNOWN = Bench.UNKNOWN, BAD = Bench.BAD, LATE = Bench.LATE, NONE = Bench.NONE;

    /** RATE 2, FREE 1, PRICE 3; three people on a line, with 30, 10 and no COINS. */
    private static final String LINE = "T2130325P432131P123412P005500R01R12";
    private static final String[] NOBODY = {"-1", "3", "4", "5", "LEAST", "MOST"};

    private final Bench b = new Bench("BoundariesOfPaymentsTest");

    public static void main(String[] args) {
        BoundariesOfPaymentsTest test = new BoundariesOfPaymentsTest();
        test.nothingIsChanged();
        test.taxes();
        test.means();
        test.counsels();
        test.leasts();
        test.jokes();
        test.brokes();
        test.reforms();
        test.b.end();
    }

    /** LINE behind a few ACTS, so that there is much that could change by mistake. */
    private void lineAtWork() {
        b.make(LINE);
        b.go("declare(1, 3)", "keep(0)", "event(3)", "declare(0, 2)", "tellOn(0, 1)", "keep(1)", "roll(2, 8)", "seed(3)");
    }

    /** 0 EXPECTS 3 3 2 2 and has DECLARED 2; 1 EXPECTS 1 2 2 5 and has HEARD it; 2 EXPECTS 0 0 4 6. */
    private void nothingIsChanged() {
        b.sentence("Terms 2", "In what follows nothing is changed.");
        lineAtWork();
        b.still("tax(1, 2)", 2 * 3);
        // 3 times 2 times 7, 2 times 2 times 3, 5 times 2 times 4: 94 by 10
        b.still("mean(1, true)", 47);
        // 9.4 without, 12 by DECLARING 3
        b.still("counsel(1)", NONE);
        b.still("least(1, 1, false)", 5);
        // only 2, that it has DECLARED, costs 0 nothing; then 1 pays 6, 2 pays 10
        b.still("joke(0, 1)", 16);
        b.still("jokeAt(0, 1, 0)", 2);
        b.still("broke(0)", 0);
        b.still("reform(0)", NONE);
        // 2 pays 18, 18, 10 and 6, never 8
        b.still("tales(0)", 0);
        b.still("tales(1)", 0);
        b.still("tales(2)", NONE);
        b.still("school(0, 2, 2, 12)", 6 + 9);
        b.still("braced(0)", 2);
        // 10 and 94 by 2
        b.still("fair(1, 2, 1)", 52);
        b.still("courier(1)", 9);
        b.still("about(6)", 4);
        b.still("person(1, 7)", 2);
        b.still("fault()", NONE);
    }

    // ---- promise 12

    private void taxes() {
        b.sentence("Promise 12", "TAX, if a KIND comes now.");
        b.make(LINE);
        int[][] want = {{10, 12, 14, 16}, {16, 14, 12, 10}, {18, 18, 8, 8}};
        for (int p = 0; p < 3; p++) {
            for (int kind = 0; kind < 4; kind++) b.still("tax(" + p + ", " + kind + ")", want[p][kind]);
        }
        b.make("T9001234P055000P055000P055000P055000P055000");
        b.still("tax(4, 0)", 90);
        b.still("tax(4, 1)", 45);
        b.sentence("Promise 12", "UNKNOWN; BAD.");
        b.each("tax(?, 0)", UNKNOWN, "-1", "5", "LEAST", "MOST");
        b.each("tax(4, ?)", BAD, "-1", "4", "LEAST", "MOST");
        lineAtWork();
        b.each("tax(?, 0)", UNKNOWN, NOBODY);
        b.each("tax(0, ?)", BAD, "-1", "4", "-9", "LEAST", "MOST");
        b.sentence("Terms 4", "Of several what is told first.");
        b.each("tax(3, ?)", UNKNOWN, "-1", "4");
        b.fresh();
        b.each("tax(?, 4)", UNKNOWN, "-1", "0");
    }

    // ---- promise 13

    private void mean(int person, int above, int below) {
        b.still("mean(" + person + ", true)", above);
        b.still("mean(" + person + ", false)", below);
    }

    private void means() {
        b.sentence("Terms 4", "FRACTIONS are told above (upper = true), below, in least terms.");
        Object[][] textAboveBelow = {
            {"T0001234P432100", 0, 1}, {"T1900550P055000", 0, 1}, {"T1901900P055000", 1, 10}, {"T1902800P055000", 1, 5},
            {"T1905500P055000", 1, 2}, {"T1904600P055000", 2, 5}, {"T1909100P055000", 9, 10}, {"T1901234P055000", 1, 2},
            {"T2905500P055000", 1, 1}, {"T3905500P055000", 3, 2}, {"T9009100P055000", 171, 2}, {"T9000055P550000", 90, 1}};
        for (Object[] row : textAboveBelow) {
            b.make((String) row[0]);
            mean(0, (int) row[1], (int) row[2]);
        }
        b.sentence("Promise 13", "MEAN. UNKNOWN.");
        lineAtWork();
        b.each("mean(?, true)", UNKNOWN, NOBODY);
        b.each("mean(?, false)", UNKNOWN, NOBODY);
        b.fresh();
        b.each("mean(?, true)", UNKNOWN, "-1", "0");
        b.sentence("Terms 2", "MEAN of one: TAX of today's EVENT, by ODDS: a FRACTION.");
        b.make(LINE);
        mean(0, 72, 5);
        mean(1, 58, 5);
        mean(2, 11, 1);
        b.go("declare(0, 3)", "tellOn(0, 1)");
        // 0 pays 18 by KINDS 1 and 2; 1 pays 14, 12 and, for it has HEARD 3, 4
        mean(0, 9, 1);
        mean(1, 43, 5);
    }

    // ---- promise 14

    private void counsel(String text, int want) {
        b.make(text);
        b.still("counsel(0)", want);
    }

    private void counsels() {
        b.sentence("Terms 2", "the KIND by which PRICE and MEAN are least together, NONE if that is no less than without;");
        // 10 without, PRICE and 1 by DECLARING 3
        counsel("T1000019P550000", 3);
        counsel("T1080019P550000", 3);
        counsel("T1090019P550000", NONE);
        // 9.1, then 9 without; 8 and 1 by DECLARING 3
        counsel("T1080019P450100", 3);
        counsel("T1080019P441100", NONE);
        counsel("T0000019P550000", NONE);
        counsel("T0090019P550000", NONE);
        counsel("T1009100P001900", 0);
        // FREE 9: 1 by any other KIND, so 0.1 for 0.5
        counsel("T1900019P550000", 3);
        counsel("T1910019P550000", NONE);
        b.sentence("Terms 2", "of like ones the least.");
        counsel("T1005500P005500", 0);
        counsel("T1000505P505000", 1);
        counsel("T1000055P550000", 2);
        counsel("T1005005P055000", 0);
        counsel("T1003331P111700", 0);
        counsel("T1001333P711100", 1);
        b.sentence("Promise 14", "COUNSEL; NONE. UNKNOWN; LATE: it has DECLARED.");
        lineAtWork();
        b.each("counsel(?)", UNKNOWN, NOBODY);
        b.still("counsel(0)", LATE);
        b.make(LINE);
        // 12 by DECLARING 3: 14.4, 11.6 and 11 without
        b.row("counsel(?)", 3, NONE, NONE);
        b.row("counsel(?)", 3, NONE, NONE);
        b.go("declare(0, 0)");
        b.still("counsel(0)", LATE);
        b.go("event(0)");
        b.still("counsel(0)", 3);
        b.fresh();
        b.each("counsel(?)", UNKNOWN, "-1", "0");
        counselsOfHeard();
    }

    private void counselsOfHeard() {
        b.sentence("Terms 2", "COUNSEL: what it should DECLARE, if it has not:");
        b.make("T1040019P550000P001900R01");
        // 10 without; 5 by DECLARING 3; then, HEARD, 5.5 without
        b.still("counsel(0)", 3);
        b.go("declare(1, 3)", "tellOn(1, 0)");
        b.still("counsel(0)", 3);
        b.make("T1050019P550000P001900R01");
        b.go("declare(1, 3)", "tellOn(1, 0)");
        b.still("counsel(0)", NONE);
    }

    // ---- promise 15

    private void least(int n, int above, int below) {
        b.still("least(0, " + n + ", true)", above);
        b.still("least(0, " + n + ", false)", below);
    }

    private void leasts() {
        b.sentence("Terms 2", "LEAST over n DAYS (1 .. 3):");
        b.make("T1991900P055000");
        // 0 surprises by 1 for as long as it has not come, with ODDS 1: 0.1, 0.9 of it, 0.81 of it
        least(1, 1, 10);
        least(2, 19, 100);
        least(3, 271, 1000);
        b.make("T0091900P055000");
        for (int n = 1; n <= 3; n++) least(n, 0, 1);
        b.make("T9090055P550090");
        for (int n = 1; n <= 3; n++) least(n, 54 * n, 1);
        b.sentence("Promise 15", "LEAST. UNKNOWN; BAD: n.");
        lineAtWork();
        b.each("least(0, ?, true)", BAD, "-1", "0", "4", "LEAST", "MOST");
        b.each("least(2, ?, false)", BAD, "0", "4");
        b.each("least(?, 1, true)", UNKNOWN, NOBODY);
        b.sentence("Terms 4", "Of several what is told first.");
        b.each("least(3, ?, true)", UNKNOWN, "0", "4");
        b.fresh();
        b.each("least(?, 1, false)", UNKNOWN, "-1", "0");
        mornings();
    }

    private void mornings() {
        b.sentence("Terms 2", "if each morning (this one, too, if it has not DECLARED) it may DECLARE something or not, "
            + "knowing what came so far");
        b.make("T1080019P550090");
        least(1, 9, 1);
        b.make("T1090019P550090");
        least(1, 10, 1);
        b.make("T1080019P441190");
        least(1, 9, 1);
        b.make("T1080019P550090");
        b.go("declare(0, 2)");
        // 9 today, whatever PRICE was; then 8 and 1 by DECLARING 3
        least(1, 9, 1);
        least(2, 18, 1);
        b.make("T1070019P550090");
        b.go("declare(0, 2)");
        // 9 today, though 7 and 1 would be less: it has DECLARED
        least(1, 9, 1);
        least(2, 17, 1);
        b.make("T1070019P550090");
        least(1, 8, 1);
        least(2, 16, 1);
        b.sentence("Terms 2", "(its HABIT learns; it HEARS nothing more): a FRACTION.");
        b.make("T1090019P550090P019090R01");
        // 10, then 9.9 by 4 5 1 0 (0.1) or 9.1 by 4 5 0 1 (0.9)
        least(1, 10, 1);
        least(2, 959, 50);
        b.go("declare(1, 3)", "tellOn(1, 0)");
        // today 1 and 4.5
        least(1, 11, 2);
        least(2, 367, 25);
    }

    // ---- promises 16 and 17

    private void joke(int person, int n, int paid, int... row) {
        b.still("joke(" + person + ", " + n + ")", paid);
        for (int i = 0; i < n; i++) b.still("jokeAt(" + person + ", " + n + ", " + i + ")", row.length == 0 ? NONE : row[i]);
        b.still("jokeAt(" + person + ", " + n + ", -1)", NONE);
        b.still("jokeAt(" + person + ", " + n + ", " + n + ")", NONE);
    }

    private void jokes() {
        b.sentence("Terms 2", "JOKE: a row of n EVENTS (1 .. 4) from now on (nobody DECLARES more) by which PERSON j pays nothing, "
            + "and the others pay most together: how much; its EVENTS; of like ones the first by KINDS; NONE: there is none.");
        b.make("T1501234P500590P055090");
        joke(0, 1, 5, 0);
        joke(1, 1, 5, 1);
        b.make("T1401234P500590P055090");
        for (int n = 1; n <= 4; n++) joke(0, n, NONE);
        b.make("T0001234P500590P055090");
        joke(0, 1, 0, 0);
        joke(0, 4, 0, 0, 0, 0, 0);
        // 1 pays 1 by each of 0 and 3, once; 0 pays nothing at all
        b.make("T1901234P432100P055000");
        joke(0, 1, 1, 0);
        joke(0, 2, 2, 0, 3);
        joke(0, 3, 2, 0, 0, 3);
        joke(0, 4, 2, 0, 0, 0, 3);
        b.make("T1901234P432100P055000P055000");
        joke(0, 2, 4, 0, 3);
        b.make("T1901234P432100");
        joke(0, 1, 0, 0);
        b.make("T1901234P055000");
        joke(0, 1, 0, 1);
        b.make("T1001234P432190P123490");
        joke(0, 1, NONE);
        b.go("declare(0, 2)");
        joke(0, 1, 7, 2);
        joke(0, 2, NONE);
        jokesRefused();
    }

    private void jokesRefused() {
        b.sentence("Promise 16", "JOKE: how much; NONE. UNKNOWN; BAD: n.");
        lineAtWork();
        b.each("joke(0, ?)", BAD, "-1", "0", "5", "LEAST", "MOST");
        b.each("joke(?, 1)", UNKNOWN, NOBODY);
        b.each("joke(3, ?)", UNKNOWN, "0", "5");
        b.sentence("Promise 17", "UNKNOWN; BAD: n.");
        b.each("jokeAt(0, ?, 0)", BAD, "-1", "0", "5", "LEAST", "MOST");
        b.each("jokeAt(0, ?, -1)", BAD, "0", "5");
        b.each("jokeAt(?, 1, 0)", UNKNOWN, NOBODY);
        b.each("jokeAt(3, ?, 9)", UNKNOWN, "0", "5");
        b.sentence("Promise 17", "The i-th EVENT (from 0) of it; NONE: there is none such.");
        b.make("T1501234P500590P055090");
        b.each("jokeAt(0, 1, ?)", NONE, "-1", "1", "4", "LEAST", "MOST");
        b.each("jokeAt(0, 4, ?)", NONE, "-1", "4", "LEAST", "MOST");
        b.each("jokeAt(0, 4, ?)", 0, "0", "1", "2", "3");
        b.fresh();
        b.still("joke(0, 1)", UNKNOWN);
        b.still("jokeAt(0, 1, 0)", UNKNOWN);
    }

    // ---- promise 18

    private void brokes() {
        b.sentence("Terms 2", "BROKE by a KIND: after how many EVENTS of it, one each DAY (0 .. 30; nobody DECLARES more), "
            + "somebody is first in DEBT; NONE.");
        b.make("T0011234P550000");
        b.still("broke(0)", NONE);
        b.go("declare(0, 0)");
        for (int kind = 0; kind < 4; kind++) b.still("broke(" + kind + ")", 0);
        b.make("T1001234P550000");
        b.still("broke(3)", 1);
        b.make("T1001234P550010");
        // 10, no DEBT yet, then 9
        b.still("broke(3)", 2);
        // 5 and 4, then 3
        b.still("broke(0)", 3);
        b.make("T1001234P550090P550000P550090");
        b.still("broke(3)", 1);
        b.fresh();
        b.still("broke(0)", NONE);
        theLastOfBroke();
        b.sentence("Promise 18", "BROKE; NONE. BAD.");
        lineAtWork();
        b.each("broke(?)", BAD, "-1", "4", "LEAST", "MOST");
        b.fresh();
        b.each("broke(?)", BAD, "-1", "4");
    }

    /** 10, 9, .. 1: then it is EXPECTED by 10, and nothing is paid any more. */
    private void theLastOfBroke() {
        b.sentence("Terms 2", "somebody is first in DEBT; NONE.");
        b.make("T1061234P550060");
        b.go("declare(0, 3)");
        b.still("broke(2)", 10);
        b.make("T1051234P550060");
        b.go("declare(0, 3)");
        b.still("broke(2)", NONE);
        // 0, then 9, 8, .. 1 if what is DECLARED comes
        b.make("T1061234P550060");
        b.go("declare(0, 2)");
        b.still("broke(2)", NONE);
        b.make("T1001234P550050");
        b.still("broke(2)", 8);
    }

    // ---- promise 19

    private void reform(String text, int kind, int want) {
        b.make(text);
        b.still("reform(" + kind + ")", want);
    }

    private void reforms() {
        b.sentence("Terms 2", "REFORM for a KIND: of all RATES and FREES (0 .. 9 each) by which nobody is in DEBT behind one EVENT "
            + "of it now, the one that differs least from those there are (both differences together), "
            + "of like ones the least RATE, then FREE; NONE.");
        // 5 times 4 is just what is there
        reform("T5201234P432120", 0, 52);
        // 5 times 5 is too much: 4 times 5 or 5 times 4
        reform("T5201234P432120", 1, 42);
        // 1 times 7 is the only one that differs by 4
        reform("T5201234P432110", 3, 12);
        reform("T0001234P055000", 0, 0);
        reform("T0901234P055000", 0, 9);
        reform("T9901234P055000", 1, 99);
        reform("T9901234P055000", 0, 9);
        reform("T1901234P055000", 0, 9);
        reform("T9001234P055000", 0, 0);
        reform("T9001234P123400", 0, 0);
        reform("T9001234P123400", 1, 98);
        reform("T9101234P123400", 0, 99);
        reform("T8001234P123400", 0, 0);
        reform("T9001234P055090", 0, 90);
        reform("T5001234P432190P432140", 3, 40);
        b.fresh();
        b.still("reform(0)", 0);
        b.make("T9001234P055000P055010");
        b.go("event(1)");
        b.still("reform(1)", NONE);
        b.make("T5201234P432120");
        b.go("declare(0, 3)");
        // none, if 3 comes; 5 times 8, 4 times 7, 3 times 7 are too much by 0
        b.still("reform(3)", 52);
        b.still("reform(0)", 22);
        b.sentence("Promise 19", "REFORM: ten times its RATE, and FREE; NONE. BAD.");
        lineAtWork();
        b.each("reform(?)", BAD, "-1", "4", "LEAST", "MOST");
        b.fresh();
        b.each("reform(?)", BAD, "-1", "4");
    }
}
