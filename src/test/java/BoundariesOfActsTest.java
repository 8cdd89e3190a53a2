/** The boundary cases of SURPRISE and TAX, and of what people do and what comes: promises 8 to 11. */
public final class BoundariesOfActsTest {
    private static final int UNKNOWN = Bench.UNKNOWN, BAD = Bench.BAD, LATE = Bench.LATE, NONE = Bench.NONE;

    /** RATE 2, FREE 1, PRICE 3; three people on a line, with 30, 10 and no COINS. */
    private static final String LINE = "T2130325P432131P123412P005500R01R12";
    private static final String ODDS = "1234";

    private final Bench b = new Bench("BoundariesOfActsTest");

    public static void main(String[] args) {
        BoundariesOfActsTest test = new BoundariesOfActsTest();
        test.surprises();
        test.debts();
        test.declaring();
        test.telling();
        test.events();
        test.undoing();
        test.b.end();
    }

    // ---- SURPRISE, TAX

    private void surprises() {
        b.sentence("Terms 1", "SURPRISE of one by an EVENT of a KIND: 10 less the tenths by which it is EXPECTED, less FREE "
            + "(0 at least);");
        int[][] freeExpectsSurprise = {{0, 0, 10}, {0, 1, 9}, {0, 8, 2}, {0, 9, 1}, {1, 0, 9}, {1, 8, 1}, {1, 9, 0}, {2, 7, 1},
            {2, 8, 0}, {2, 9, 0}, {5, 4, 1}, {5, 5, 0}, {5, 6, 0}, {8, 1, 1}, {8, 2, 0}, {8, 9, 0}, {9, 0, 1}, {9, 1, 0}, {9, 9, 0}};
        for (int[] row : freeExpectsSurprise) {
            b.make("T1" + row[0] + "0" + ODDS + "P" + row[1] + others(row[1]) + "00");
            b.due("tax(0, 0)", row[2]);
            b.make("T1" + row[0] + "0" + ODDS + "P" + others(row[1]) + row[1] + "00");
            b.due("tax(0, 3)", row[2]);
        }
        for (int free = 0; free <= 9; free += 3) {
            b.make("T1" + free + "0" + ODDS + "P900100");
            b.go("event(0)");
            b.due("person(0, 0)", 10);
            b.due("tax(0, 0)", 0);
            b.due("tax(0, 3)", 10 - free);
        }
        surprisesByNews();
        taxes();
    }

    /** What the three other KINDS are EXPECTED by. */
    private static String others(int expected) {
        String[] told = {"550", "450", "440", "430", "420", "410", "400", "300", "200", "100"};
        return told[expected];
    }

    private void surprisesByNews() {
        b.sentence("Terms 1", "if one has DECLARED that KIND, none; if it has DECLARED another one, 10 less FREE;");
        b.make("T1001234P900100P900100R01");
        b.go("declare(0, 3)");
        b.row("tax(0, ?)", 10, 10, 10, 0);
        b.make("T1901234P900100");
        b.due("tax(0, 0)", 0);
        b.go("declare(0, 0)");
        b.row("tax(0, ?)", 0, 1, 1, 1);
        b.make("T1901234P900100");
        b.go("declare(0, 1)");
        b.row("tax(0, ?)", 1, 0, 1, 1);
        b.sentence("Terms 1", "else, if it has HEARD that KIND, half of it (cut).");
        int[][] expectsHalf = {{0, 5}, {1, 4}, {2, 4}, {7, 1}, {8, 1}, {9, 0}};
        for (int[] row : expectsHalf) {
            b.make("T1001234P900100P" + row[0] + others(row[0]) + "00R01");
            b.due("tax(1, 0)", 10 - row[0]);
            b.go("declare(0, 0)", "tellOn(0, 1)");
            b.due("tax(1, 0)", row[1]);
            b.due("tax(1, 3)", 10);
        }
        b.make("T1201234P900100P072100R01");
        b.go("declare(0, 1)", "tellOn(0, 1)");
        b.row("tax(1, ?)", 8, 0, 6, 7);
        b.go("declare(1, 0)");
        b.row("tax(1, ?)", 0, 8, 8, 8);
    }

    private void taxes() {
        b.sentence("Terms 1", "TAX: RATE times that.");
        b.make("T0001234P055000");
        b.row("tax(0, ?)", 0, 0, 0, 0);
        b.make("T9001234P055000P055000R01");
        b.row("tax(0, ?)", 90, 45, 45, 90);
        b.go("declare(0, 1)", "tellOn(0, 1)");
        // half of 5 is 2, and then 9 times that
        b.row("tax(1, ?)", 90, 18, 45, 90);
    }

    private void debts() {
        b.sentence("Terms 1", "Who is in DEBT (has less than no COINS) pays it all the same.");
        b.make("T1001234P550010");
        b.due("about(6)", 0);
        b.due("event(3)", 10);
        b.due("person(0, 4)", 100000);
        b.due("about(6)", 0);
        b.due("event(3)", 9);
        b.due("person(0, 4)", 99991);
        b.due("about(6)", 1);
        b.due("event(3)", 8);
        b.due("person(0, 4)", 99983);
        b.make("T0011234P550000P550010P550000");
        b.due("about(6)", 0);
        b.due("declare(0, 0)", 99999);
        b.due("about(6)", 1);
        b.go("event(0)");
        b.due("declare(0, 0)", 99998);
        b.due("declare(1, 0)", 100009);
        b.due("about(6)", 1);
        b.due("declare(2, 0)", 99999);
        b.due("about(6)", 5);
        theDeepestDebt();
    }

    /** Nobody can owe more: 9 times 10, 9, 8, .. a DAY and 9 for news that are wrong. */
    private void theDeepestDebt() {
        b.make("T9091234P550000");
        long coins = 100000;
        // 15 writes, a wipe, a realm, then two calls a DAY up to the 500th
        for (int day = 0; day < 240; day++) {
            coins -= 9;
            b.due("declare(0, 0)", coins);
            coins -= 90;
            b.go("event(1)");
        }
        b.due("person(0, 4)", 100000 - 240 * 99);
        b.due("about(6)", 1);
        b.due("week(1)", 1000000 - 240 * 99 - 90);
    }

    // ---- promise 8

    private void declaring() {
        b.sentence("Promise 8", "DECLARED: its COINS then, and 100000.");
        b.make("T0091234P123405P123495");
        b.due("declare(0, 0)", 99991);
        b.due("declare(1, 3)", 100081);
        b.row("person(0, ?)", 1, 2, 3, 4, 99991, 5, 0, NONE, 0);
        b.make("T0001234P123495");
        b.due("declare(0, 3)", 100090);
        b.sentence("Promise 8", "UNKNOWN; BAD: kind; LATE: it has DECLARED.");
        b.make(LINE);
        refusedDeclare(3);
        b.go("declare(0, 3)", "tellOn(0, 1)");
        refusedDeclare(3);
        b.row("declare(0, ?)", LATE, LATE, LATE, LATE);
        for (int kind = 0; kind < 4; kind++) b.still("declare(0, " + kind + ")", LATE);
        b.make("T0001234P123405P123405P123405P123405P123405");
        refusedDeclare(5);
        b.due("declare(4, 0)", 100000);
        b.still("declare(4, 0)", LATE);
        b.fresh();
        refusedDeclare(0);
        b.sentence("Terms 1", "DECLARED: one, that has not so far, pays PRICE, and says which KIND comes (this DAY).");
        b.make(LINE);
        b.due("declare(0, 0)", 100027);
        b.still("declare(0, 0)", LATE);
        b.due("event(1)", 18 + 14 + 18);
        b.due("declare(0, 0)", 100027 - 18 - 3);
        b.still("declare(0, 1)", LATE);
        b.sentence("Promise 8", "LATE: it has DECLARED.");
        b.go("undo()");
        b.due("declare(0, 2)", 100027 - 18 - 3);
        b.due("declare(1, 2)", 100010 - 14 - 3);
        // one that has HEARD has DECLARED nothing
        b.due("tellOn(1, 2)", 2);
        b.due("declare(2, 1)", 100000 - 18 - 3);
        b.due("person(2, 7)", 2);
    }

    private void refusedDeclare(int people) {
        b.sentence("Promise 8", "UNKNOWN; BAD: kind;");
        b.each("declare(?, 0)", UNKNOWN, "-1", String.valueOf(people), "LEAST", "MOST");
        if (people > 0) b.each("declare(0, ?)", BAD, "-1", "4", "-9", "LEAST", "MOST");
        b.sentence("Terms 4", "Of several what is told first.");
        b.each("declare(" + people + ", ?)", UNKNOWN, "-1", "4");
    }

    // ---- promise 9

    private void telling() {
        b.sentence("Promise 9", "HEARD: which KIND.");
        for (int kind = 0; kind < 4; kind++) {
            b.make(LINE);
            b.go("declare(1, " + kind + ")");
            b.due("tellOn(1, 0)", kind);
            b.due("person(0, 7)", kind);
            b.due("person(0, 6)", NONE);
            b.due("person(0, 4)", 100030);
            b.due("tellOn(1, 2)", kind);
            b.due("about(8)", 3);
        }
        tellingUnknown();
        tellingLate();
        b.sentence("Terms 1", "HEARD: one that has DECLARED tells one to which a ROAD leads (both ways), "
            + "that has DECLARED nothing and HEARD nothing.");
        for (String road : new String[] {"R01", "R10"}) {
            b.make("T2130325P432131P123412" + road);
            b.go("declare(0, 2)");
            b.due("tellOn(0, 1)", 2);
            b.make("T2130325P432131P123412" + road);
            b.go("declare(1, 0)");
            b.due("tellOn(1, 0)", 0);
        }
    }

    private void tellingUnknown() {
        b.sentence("Promise 9", "UNKNOWN: both;");
        b.make(LINE);
        b.go("declare(0, 3)", "declare(2, 1)");
        for (String nobody : new String[] {"-1", "3", "4", "5", "31", "32", "33", "LEAST", "MOST"}) {
            b.still("tellOn(0, " + nobody + ")", UNKNOWN);
            b.still("tellOn(" + nobody + ", 1)", UNKNOWN);
        }
        b.still("tellOn(3, 3)", UNKNOWN);
        b.sentence("Terms 4", "Of several what is told first.");
        b.still("tellOn(1, 3)", UNKNOWN);
        b.still("tellOn(1, -1)", UNKNOWN);
        b.fresh();
        b.still("tellOn(0, 0)", UNKNOWN);
        b.make("T0001234P123405");
        b.go("declare(0, 1)");
        b.still("tellOn(0, 1)", UNKNOWN);
        b.still("tellOn(0, 0)", LATE);
    }

    private void tellingLate() {
        b.sentence("Promise 9", "LATE: the first one has DECLARED nothing, no ROAD leads there, "
            + "or the other one has DECLARED or HEARD.");
        b.make(LINE);
        b.still("tellOn(0, 1)", LATE);
        b.go("declare(0, 3)");
        b.still("tellOn(1, 0)", LATE);
        b.still("tellOn(0, 2)", LATE);
        b.still("tellOn(0, 0)", LATE);
        b.due("tellOn(0, 1)", 3);
        b.still("tellOn(0, 1)", LATE);
        // 1 has only HEARD
        b.still("tellOn(1, 2)", LATE);
        b.go("declare(2, 0)");
        b.still("tellOn(2, 1)", LATE);
        b.make(LINE);
        b.go("declare(0, 3)", "declare(1, 3)");
        b.still("tellOn(0, 1)", LATE);
        b.still("tellOn(1, 0)", LATE);
        b.go("event(0)");
        b.still("tellOn(0, 1)", LATE);
        b.go("declare(0, 2)");
        b.due("tellOn(0, 1)", 2);
        b.go("undo()");
        b.due("tellOn(0, 1)", 2);
        b.go("undo()", "undo()");
        b.still("tellOn(0, 1)", LATE);
    }

    // ---- promise 10

    private void events() {
        b.sentence("Promise 10", "AN EVENT: all TAX that is paid.");
        b.fresh();
        b.due("event(0)", 0);
        b.due("event(3)", 0);
        b.make("T9001234P055090P055090P055000P055000P055000");
        b.due("event(3)", 450);
        b.row("person(?, 4)", 100000, 100000, 99910, 99910, 99910);
        b.due("about(6)", 28);
        b.make("T0001234P055090P055090");
        b.due("event(3)", 0);
        b.sentence("Promise 10", "BAD: kind.");
        b.fresh();
        b.each("event(?)", BAD, "-1", "4", "LEAST", "MOST");
        b.make(LINE);
        b.go("declare(0, 3)", "tellOn(0, 1)", "event(0)", "declare(1, 2)");
        b.each("event(?)", BAD, "-1", "4", "-9", "LEAST", "MOST");
        b.due("event(3)", 2 * (10 - 1 - 1) + 2 * 9 + 2 * (10 - 5 - 1));
        habits();
        b.sentence("Terms 1", "nobody has DECLARED or HEARD anything any more, THE DAY is one more.");
        b.make(LINE);
        b.go("declare(0, 3)", "tellOn(0, 1)");
        b.due("about(5)", 0);
        b.go("event(3)");
        b.due("about(5)", 1);
        b.due("person(0, 6)", NONE);
        b.due("person(1, 7)", NONE);
        b.row("tax(0, ?)", 2 * 6, 2 * 6, 2 * 7, 2 * 7);
    }

    /** After each habit: which KIND comes, and the habit behind it. */
    private void habits() {
        b.sentence("Terms 1", "AN EVENT: each pays its TAX; then its HABIT learns: the KIND that came is EXPECTED by one tenth more, "
            + "the one of the others that is EXPECTED most (of like ones the least) by one less (if it is EXPECTED by 10 already, nothing moves);");
        habit("9100", 0, 10, 0, 0, 0);
        habit("9010", 0, 10, 0, 0, 0);
        habit("0019", 3, 0, 0, 0, 10);
        habit("0019", 2, 0, 0, 2, 8);
        habit("0019", 0, 1, 0, 1, 8);
        habit("3331", 3, 2, 3, 3, 2);
        habit("3331", 0, 4, 2, 3, 1);
        habit("3331", 1, 2, 4, 3, 1);
        habit("1333", 0, 2, 2, 3, 3);
        habit("1333", 3, 1, 2, 3, 4);
        habit("2233", 0, 3, 2, 2, 3);
        habit("2233", 2, 2, 2, 4, 2);
        habit("2332", 1, 2, 4, 2, 2);
        habit("7111", 0, 8, 0, 1, 1);
        habit("7111", 1, 6, 2, 1, 1);
        habit("1117", 3, 0, 1, 1, 8);
        habit("5050", 1, 4, 1, 5, 0);
        b.make("T0001234P910000");
        b.go("event(0)");
        b.row("person(0, ?)", 10, 0, 0, 0);
        b.times(2, "event(0)");
        b.row("person(0, ?)", 10, 0, 0, 0);
        b.go("event(2)");
        b.row("person(0, ?)", 9, 0, 1, 0);
        b.due("about(5)", 4);
    }

    private void habit(String expects, int kind, int... want) {
        b.make("T1101234P" + expects + "00P432100");
        b.go("event(" + kind + ")");
        for (int k = 0; k < 4; k++) b.due("person(0, " + k + ")", want[k]);
    }

    // ---- promise 11

    private void undoing() {
        b.sentence("Promise 11", "The last ACT is undone: how many are left.");
        b.make(LINE);
        b.go("declare(0, 3)", "tellOn(0, 1)", "event(3)");
        b.due("undo()", 2);
        b.row("person(0, ?)", 4, 3, 2, 1, 100027, 1, 3, NONE, 2);
        b.row("person(1, ?)", 1, 2, 3, 4, 100010, 2, NONE, 3, 5);
        b.row("person(2, ?)", 0, 0, 5, 5, 100000, 0, NONE, NONE, 2);
        b.due("about(5)", 0);
        b.due("undo()", 1);
        b.due("person(1, 7)", NONE);
        b.due("undo()", 0);
        b.due("person(0, 6)", NONE);
        b.due("person(0, 4)", 100030);
        b.sentence("Promise 11", "LATE: there is none.");
        b.still("undo()", LATE);
        b.fresh();
        b.still("undo()", LATE);
        b.make(LINE);
        b.still("undo()", LATE);
        b.go("event(0)", "keep(0)", "again(0)");
        b.still("undo()", LATE);
        b.go("event(0)", "realm()");
        b.still("undo()", LATE);
        b.go("roll(0, 1)", "seed(5)", "week(3)", "write(80)");
        b.still("undo()", LATE);
        fullRow();
        forgotten();
    }

    private void fullRow() {
        b.sentence("Terms 1", "ACTS (DECLARED, HEARD, EVENTS) are a row (12 at most;");
        b.make(LINE);
        for (int day = 0; day < 4; day++) {
            b.go("declare(0, 3)");
            b.due("about(8)", 3 * day + 1);
            b.go("tellOn(0, 1)");
            b.due("about(8)", 3 * day + 2);
            b.go("event(0)");
            b.due("about(8)", 3 * day + 3);
        }
        b.due("about(8)", 12);
        for (int left = 11; left >= 0; left--) b.due("undo()", left);
        b.row("person(0, ?)", 4, 3, 2, 1, 100030, 1, NONE, NONE, 2);
        b.row("person(1, ?)", 1, 2, 3, 4, 100010, 2, NONE, NONE, 5);
        b.due("about(5)", 0);
        b.still("undo()", LATE);
    }

    private void forgotten() {
        b.sentence("Terms 1", "when it is full, the first one is forgotten); the last one can be undone.");
        b.make(LINE);
        b.go("declare(0, 3)");
        b.times(11, "event(0)");
        b.due("about(8)", 12);
        b.go("event(0)");
        b.due("about(8)", 12);
        b.due("about(5)", 12);
        for (int left = 11; left >= 0; left--) {
            b.due("undo()", left);
            b.due("about(5)", left);
        }
        b.still("undo()", LATE);
        // that it DECLARED is forgotten among ACTS, and so stays
        b.row("person(0, ?)", 4, 3, 2, 1, 100027, 1, 3, NONE, 2);
        b.still("declare(0, 3)", LATE);
        b.make(LINE);
        b.times(25, "event(1)");
        for (int left = 11; left >= 7; left--) b.due("undo()", left);
        b.due("about(5)", 20);
        b.times(4, "event(1)");
        b.due("about(8)", 11);
        b.go("event(1)");
        b.due("about(8)", 12);
        b.go("event(1)");
        b.due("about(8)", 12);
        for (int left = 11; left >= 0; left--) b.due("undo()", left);
        b.due("about(5)", 14);
        b.still("undo()", LATE);
    }
}
