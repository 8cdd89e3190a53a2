/** The boundary cases of THE SEED, A WEEK and SLOTS: promises 27 to 30. */
public final class BoundariesOfWeeksTest {
    private static final int UNKNOWN = Bench.UNKNOWN, BAD = Bench.BAD, LATE = Bench.LATE, NONE = Bench.NONE;

    /** RATE 2, FREE 1, PRICE 3; three people on a line, with 30, 10 and no COINS. */
    private static final String LINE = "T2130325P432131P123412P005500R01R12";
    /** Of one that pays 9, 8, 7, 6 by the KINDS, whatever the ODDS. */
    private static final String TELLER = "P123490";

    private final Bench b = new Bench("BoundariesOfWeeksTest");

    public static void main(String[] args) {
        BoundariesOfWeeksTest test = new BoundariesOfWeeksTest();
        test.seeds();
        test.lengths();
        test.left();
        test.upperBits();
        test.firstDay();
        test.unchanged();
        test.keeping();
        test.goingOn();
        test.lost();
        test.b.end();
    }

    // ---- promise 27

    private void seeds() {
        b.sentence("Promise 27", "THE SEED is v: what it was.");
        b.fresh();
        b.due("seed(5)", 0);
        b.due("seed(-1)", 5);
        b.due("seed(LEAST)", -1);
        b.due("seed(MOST)", Long.MIN_VALUE);
        b.due("seed(0)", Long.MAX_VALUE);
        b.due("seed(0)", 0);
    }

    // ---- promise 28

    private void lengths() {
        b.sentence("Promise 28", "A WEEK. BAD: m.");
        b.fresh();
        b.each("week(?)", BAD, "-1", "0", "31", "LEAST", "MOST");
        b.make(LINE);
        b.go("seed(77)", "declare(0, 3)", "tellOn(0, 1)", "keep(1)");
        b.each("week(?)", BAD, "-1", "0", "31", "LEAST", "MOST");
        b.due("seed(0)", 77);
        b.sentence("Terms 3", "A WEEK by THE SEED: m DAYS (1 .. 30), of each x (THE SEED, a long; 0 at first) becomes x times "
            + "6364136223846793005 and 1442695040888963407 (64 bits, wrapping);");
        b.fresh();
        b.due("week(1)", 1000000);
        b.due("seed(0)", 1442695040888963407L);
        b.due("week(30)", 1000000);
        b.due("seed(-1)", -7345197285147560642L);
        b.due("week(1)", 1000000);
        b.due("seed(MOST)", -4921441182957829598L);
        b.due("week(1)", 1000000);
        b.due("seed(LEAST)", 4301930853896946210L);
        b.due("week(1)", 1000000);
        b.due("seed(0)", -7780676995965812401L);
        // by what is left (7 4 7 6 .. 5 0 2 ..) always KIND 3, but for the 15th DAY: 1, nothing, 10 by KIND 2, 1, nothing
        b.make("T1000019P001990");
        b.due("week(30)", 1000090 - 12);
        b.go("seed(0)");
        b.due("week(15)", 1000090 - 11);
        b.go("seed(0)");
        b.due("week(14)", 1000090 - 1);
    }

    /** By 2, 6, 5, 9, 1, 12, 4, 0, 7, 3 of THE SEED the first x leaves 0 to 9. */
    private static final int[] SEED_THAT_LEAVES = {2, 6, 5, 9, 1, 12, 4, 0, 7, 3};
    private static final int[] ANOTHER = {29, 13, 20, 16, 8, 19, 11, 22, 14, 10};

    private void left() {
        b.sentence("Terms 3", "by what is left of its upper 31 bits by 10 and ODDS (the first KIND whose ODDS, with those ahead, "
            + "are more than that) an EVENT comes (nobody DECLARES more;");
        String[] oddsKinds = {"1234 0112223333", "9100 0000000001", "9001 0000000003", "0019 2333333333", "0190 1222222222",
            "0550 1111122222", "5005 0000033333", "0505 1111133333", "1900 0111111111", "0091 2222222223"};
        for (String row : oddsKinds) {
            String odds = row.substring(0, 4), kinds = row.substring(5);
            b.make("T100" + odds + TELLER);
            for (int left = 0; left < 10; left++) {
                int kind = kinds.charAt(left) - '0';
                b.go("seed(" + SEED_THAT_LEAVES[left] + ")");
                b.due("week(1)", 1000090 - (9 - kind));
                b.go("seed(" + ANOTHER[left] + ")");
                b.due("week(1)", 1000090 - (9 - kind));
            }
        }
    }

    /** Of x as it becomes by these seeds: 2^33 - 1, 2^33, 10 * 2^33 - 1, 10 * 2^33, 2^63 - 1, 2^63, 2^64 - 1. */
    private void upperBits() {
        b.sentence("Terms 3", "by what is left of its upper 31 bits by 10");
        long[][] seedXKind = {{4483922187169113968L, (1L << 33) - 1, 0}, {-84997745826115563L, 1L << 33, 1},
            {-3649900235343976592L, (10L << 33) - 1, 3}, {-8218820168339206123L, 10L << 33, 0},
            {6412499349321099120L, Long.MAX_VALUE, 2}, {1843579416325869589L, Long.MIN_VALUE, 2},
            {-2810872687533676688L, -1, 3}, {-7379792620528906219L, 0, 0}};
        b.make("T1001234" + TELLER);
        for (long[] row : seedXKind) {
            b.go("seed(" + row[0] + ")");
            b.due("week(1)", 1000090 - (9 - row[2]));
            b.due("seed(0)", row[1]);
        }
    }

    private void firstDay() {
        b.sentence("Terms 3", "what is DECLARED, HEARD now counts on the first DAY): all COINS of all then, and 1000000.");
        b.make("T1001234" + TELLER + TELLER + "R01");
        b.due("week(1)", 1000180 - 6 - 6);
        b.go("seed(0)", "declare(0, 3)", "tellOn(0, 1)");
        b.due("week(1)", 1000180 - 3);
        b.go("seed(0)");
        // then, by 4, KIND 2, that is EXPECTED by 2 now
        b.due("week(2)", 1000180 - 3 - 8 - 8);
        b.go("seed(3)", "event(0)");
        // 10 and 9 are paid, both EXPECT 2 2 3 3, and by 9 KIND 3 comes
        b.due("week(1)", 1000180 - 10 - 9 - 7 - 7);
        b.make("T9001234P055000");
        b.go("seed(0)");
        b.due("week(1)", 1000000 - 90);
        // five of them: 6 and 6, one DECLARED it, 3 by one that has HEARD it, 10 by one that DECLARED another one
        b.make("T1001234" + TELLER + TELLER + TELLER + TELLER + TELLER + "R04");
        b.go("seed(0)");
        b.due("week(1)", 1000450 - 5 * 6);
        b.go("seed(0)", "declare(0, 3)", "declare(1, 2)", "tellOn(0, 4)");
        b.due("week(1)", 1000450 - 0 - 10 - 6 - 6 - 3);
        // those that are not there any more have no COINS
        b.text("T1001234" + TELLER);
        b.due("realm()", 1);
        b.go("seed(0)");
        b.due("week(1)", 1000090 - 6);
    }

    private void unchanged() {
        b.sentence("Terms 3", "(Nothing changes but THE SEED.)");
        b.make(LINE);
        b.go("declare(1, 3)", "keep(0)", "event(3)", "declare(0, 2)", "tellOn(0, 1)", "keep(1)", "roll(2, 8)", "seed(3)");
        b.changesNothing("week(1)", "seed(3)");
        b.changesNothing("week(30)", "seed(3)");
        b.due("week(30)", weekOfNothing());
        b.due("undo()", 3);
    }

    /** Reckoned in its own words: what these three pay in 30 DAYS from THE SEED 3, behind those ACTS. */
    private static long weekOfNothing() {
        int[][] expects = {{3, 3, 2, 2}, {1, 2, 2, 5}, {0, 0, 4, 6}};
        int[] declared = {2, NONE, NONE}, heard = {NONE, 2, NONE};
        long coins = 30 - 16 - 3 + 10 - 3 + 0 - 8, x = 3;
        for (int day = 0; day < 30; day++) {
            x = x * 6364136223846793005L + 1442695040888963407L;
            long left = Long.remainderUnsigned(x >>> 33, 10);
            int kind = left < 3 ? 1 : left < 5 ? 2 : 3;
            for (int p = 0; p < 3; p++) {
                int surprise = Math.max(0, 9 - expects[p][kind]);
                if (day == 0 && heard[p] == kind) surprise /= 2;
                if (day == 0 && declared[p] != NONE) surprise = declared[p] == kind ? 0 : 9;
                coins -= 2 * surprise;
                learn(expects[p], kind);
            }
        }
        return 1000000 + coins;
    }

    private static void learn(int[] expects, int kind) {
        if (expects[kind] == 10) return;
        int most = -1;
        for (int other = 3; other >= 0; other--) {
            if (other != kind && (most < 0 || expects[other] >= expects[most])) most = other;
        }
        expects[kind]++;
        expects[most]--;
    }

    // ---- promises 29 and 30

    private void keeping() {
        b.sentence("Promise 29", "They are kept: THE DAY. UNKNOWN.");
        b.fresh();
        b.each("keep(?)", UNKNOWN, "-1", "2", "LEAST", "MOST");
        b.due("keep(0)", 0);
        b.due("keep(1)", 0);
        b.go("event(0)");
        b.due("keep(1)", 1);
        b.make(LINE);
        b.go("event(3)", "declare(0, 2)", "tellOn(0, 1)", "roll(2, 8)", "seed(4)");
        b.due("keep(0)", 1);
        b.go("event(0)");
        b.due("keep(1)", 2);
        b.each("keep(?)", UNKNOWN, "-1", "2", "3", "LEAST", "MOST");
        // ACTS stay, and are undone as if nothing was kept
        b.due("undo()", 3);
        b.due("person(0, 6)", 2);
        b.due("undo()", 2);
        b.due("again(0)", 1);
        b.due("person(1, 7)", 2);
    }

    private void goingOn() {
        b.sentence("Promise 30", "They are as they were kept: THE DAY.");
        b.make(LINE);
        b.go("event(3)", "declare(0, 2)", "tellOn(0, 1)", "keep(0)", "event(0)", "event(1)", "keep(1)", "roll(2, 8)", "seed(4)");
        b.due("again(0)", 1);
        b.row("person(0, ?)", 3, 3, 2, 2, 100030 - 16 - 3, 1, 2, NONE, 2);
        b.row("person(1, ?)", 1, 2, 2, 5, 100000, 2, NONE, 2, 5);
        b.row("person(2, ?)", 0, 0, 4, 6, 99992, 0, NONE, NONE, 2);
        b.row("about(?)", 3, 2, 1, 3, 325, 1, 4, 2, 0, 1, 35);
        b.due("seed(4)", 4);
        b.sentence("Terms 3", "SLOTS 0 .. 1 keep what all EXPECT, COINS, DECLARED, HEARD, THE DAY (no ACTS when one goes on).");
        b.still("undo()", LATE);
        b.go("event(2)");
        b.due("undo()", 0);
        b.due("again(1)", 3);
        b.due("person(0, 6)", NONE);
        b.due("about(8)", 0);
        b.due("again(0)", 1);
        b.due("person(0, 6)", 2);
        b.still("undo()", LATE);
        b.sentence("Promise 30", "UNKNOWN; LATE: none were kept.");
        b.each("again(?)", UNKNOWN, "-1", "2", "LEAST", "MOST");
    }

    private void lost() {
        b.sentence("Promise 30", "LATE: none were kept.");
        b.fresh();
        b.each("again(?)", LATE, "0", "1");
        b.each("again(?)", UNKNOWN, "-1", "2");
        b.make(LINE);
        b.go("declare(0, 3)", "tellOn(0, 1)", "event(1)");
        b.each("again(?)", LATE, "0", "1");
        b.go("keep(0)");
        b.still("again(1)", LATE);
        b.due("again(0)", 1);
        b.make(LINE);
        b.go("event(1)", "keep(1)", "event(1)");
        b.still("again(0)", LATE);
        b.due("again(1)", 1);
        // what was kept is gone by a new REALM, not by one that is refused
        b.text("T");
        b.still("realm()", LATE);
        b.due("again(1)", 1);
        b.text("T0001234");
        b.due("realm()", 0);
        b.each("again(?)", LATE, "0", "1");
        b.due("keep(1)", 0);
        b.due("again(1)", 0);
        b.still("again(0)", LATE);
    }
}
