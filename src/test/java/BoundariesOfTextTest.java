/** The boundary cases of THE TEXT, of the REALM that it tells, and of what is told of both: promises 1 to 7. */
public final class BoundariesOfTextTest {
    private static final int UNKNOWN = Bench.UNKNOWN, BAD = Bench.BAD, LATE = Bench.LATE, FULL = Bench.FULL, NONE = Bench.NONE;

    private static final String LAW = "T0001234", ONE = "P123405", TWO = LAW + ONE + ONE, THREE = TWO + ONE;
    private static final String FIVE = THREE + ONE + ONE, SIX_ROADS = "R01R02R03R04R12R13";
    /** RATE 2, FREE 1, PRICE 3; three people on a line, with 30, 10 and no COINS. */
    private static final String LINE = "T2130325P432131P123412P005500R01R12";

    private final Bench b = new Bench("BoundariesOfTextTest");

    public static void main(String[] args) {
        BoundariesOfTextTest test = new BoundariesOfTextTest();
        test.beginning();
        test.bytes();
        test.faults();
        test.realms();
        test.abouts();
        test.persons();
        test.calls();
        test.b.end();
    }

    // ---- promise 1

    private void beginning() {
        newObject();
        beginningOfRealm();
    }

    private void newObject() {
        b.sentence("Promise 1", "Nobody.");
        b.fresh();
        b.due("about(0)", 0);
        b.each("person(?, 0)", UNKNOWN, "0", "-1", "1", "4");
        b.each("tax(?, 0)", UNKNOWN, "0", "4");
        b.still("again(0)", LATE);
        b.still("again(1)", LATE);
        b.still("undo()", LATE);
        b.due("unroll()", 0);
        b.due("wipe()", 0);
        b.due("seed(0)", 0);
        b.due("event(0)", 0);
        b.sentence("Terms 1", "At first RATE, FREE, PRICE are 0, ODDS 1, 2, 3, 4, there is nobody.");
        b.fresh();
        b.row("about(?)", 0, 0, 0, 0, 1234, 0, 0, 0, 0, 0, 0);
    }

    private void beginningOfRealm() {
        b.sentence("Terms 1", "THE DAY is 0, nobody has DECLARED or HEARD anything, and when THE REALM is made anew.");
        b.fresh();
        b.due("about(5)", 0);
        b.make(LINE);
        b.due("about(5)", 0);
        b.row("person(0, ?)", 4, 3, 2, 1, 100030, 1, NONE, NONE, 2);
        b.go("event(3)", "event(0)", "declare(0, 3)", "tellOn(0, 1)");
        b.due("about(5)", 2);
        b.row("person(0, ?)", 4, 2, 2, 2, 100030 - 16 - 12 - 3, 1, 3, NONE, 2);
        b.due("person(1, 7)", 3);
        b.due("realm()", 3);
        b.due("about(5)", 0);
        b.due("about(8)", 0);
        b.row("person(0, ?)", 4, 3, 2, 1, 100030, 1, NONE, NONE, 2);
        b.row("person(1, ?)", 1, 2, 3, 4, 100010, 2, NONE, NONE, 5);
        b.row("person(2, ?)", 0, 0, 5, 5, 100000, 0, NONE, NONE, 2);
    }

    // ---- promises 2 and 3

    private void bytes() {
        b.sentence("Promise 2", "A byte (0 .. 255) comes behind THE TEXT: how long it is.");
        b.fresh();
        b.due("write(0)", 1);
        b.due("write(255)", 2);
        b.sentence("Promise 2", "BAD; FULL: there are 64.");
        b.each("write(?)", BAD, "-1", "256", "340", "LEAST", "MOST");
        b.make(LAW);
        b.each("write(?)", BAD, "-1", "256", "340", "LEAST", "MOST");
        b.sentence("Terms 1", "THE TEXT is bytes (64 at most).");
        b.fresh();
        for (int length = 1; length <= 63; length++) b.due("write(84)", length);
        b.due("write(0)", 64);
        b.still("write(0)", FULL);
        b.still("write(255)", FULL);
        b.due("about(10)", 64);
        b.sentence("Terms 4", "Of several what is told first.");
        b.each("write(?)", BAD, "-1", "256");
        b.sentence("Promise 3", "THE TEXT is empty: how long it was.");
        b.due("wipe()", 64);
        b.due("about(10)", 0);
        b.due("wipe()", 0);
        b.due("write(84)", 1);
        b.due("wipe()", 1);
        b.due("fault()", 0);
        b.make(LINE);
        b.due("wipe()", 35);
        b.due("about(0)", 3);
        b.still("realm()", LATE);
    }

    // ---- promise 4

    private void faults() {
        faultsOfLaw();
        faultsOfTenths();
        faultsOfPeople();
        faultsOfRoads();
        faultsOfTheSixth();
        faultsAtTheEnd();
    }

    /** What FAULT is due, and that THE REALM is made if there is none, refused if there is one. */
    private void fault(String text, int want) {
        b.fresh();
        b.add(text);
        b.still("fault()", want);
        if (want == NONE) b.due("realm()", text.chars().filter(c -> c == 'P').count());
        else b.still("realm()", LATE);
    }

    private void faultsOfLaw() {
        b.sentence("Terms 1", "THE TEXT is bytes (64 at most). A REALM is a TEXT: T, RATE r (0 .. 9), FREE f (0 .. 9), "
            + "PRICE c (0 .. 9),");
        fault("S0001234", 0);
        fault("U0001234", 0);
        fault("t0001234", 0);
        for (int at = 1; at <= 3; at++) {
            for (char c : "09".toCharArray()) fault(with(LAW, at, c), NONE);
            for (char c : new char[] {'/', ':', 'T', 0, 255}) fault(with(LAW, at, c), at);
        }
        b.sentence("Terms 1", "then PARTS, none or more:");
        fault(LAW, NONE);
        fault(LAW + ONE, NONE);
        for (char c : new char[] {'O', 'Q', 'S', 'T', 'p', '0', ' ', 0, 255}) fault(LAW + c, 8);
        fault(LAW + "R", 8);
    }

    private static String with(String text, int at, char c) {
        return text.substring(0, at) + c + text.substring(at + 1);
    }

    /** Of four figures: at which of them is the FAULT; 4 is told for none. */
    private static final Object[][] TENTHS = {
        {"9100", 4}, {"9010", 4}, {"9001", 4}, {"9200", 1}, {"9900", 1}, {"9110", 2}, {"9020", 2}, {"9000", 3}, {"9002", 3},
        {"9101", 3}, {"0910", 4}, {"0901", 4}, {"0920", 2}, {"0911", 3}, {"0900", 3}, {"0091", 4}, {"0090", 3}, {"0092", 3},
        {"0019", 4}, {"0018", 3}, {"0009", 2}, {"0000", 2}, {"0109", 4}, {"0108", 3}, {"1009", 4}, {"1008", 3}, {"0190", 4},
        {"1900", 4}, {"1910", 2}, {"2800", 4}, {"2900", 1}, {"5500", 4}, {"5600", 1}, {"5510", 2}, {"5501", 3}, {"2323", 4},
        {"2322", 3}, {"2324", 3}, {"/", 0}, {":", 0}, {"T", 0}, {"0/", 1}, {"0:", 1}, {"00/", 2}, {"00:", 2}, {"001/", 3},
        {"001:", 3}, {"001P", 3}};

    private void faultsOfTenths() {
        b.sentence("Terms 1", "four figures (0 .. 9, 10 together): ODDS of KINDS 0 .. 3 in tenths;");
        for (Object[] row : TENTHS) faultOf("T000", (String) row[0], "", (int) row[1]);
        b.sentence("Terms 1", "EXPECTS KINDS 0 .. 3 by a, b, c, d tenths (0 .. 9 each, 10 together)");
        for (Object[] row : TENTHS) faultOf(LAW + "P", (String) row[0], "00", (int) row[1]);
    }

    private void faultOf(String ahead, String figures, String behind, int want) {
        boolean isWhole = want == 4;
        fault(ahead + figures + behind, isWhole ? NONE : ahead.length() + want);
    }

    private void faultsOfPeople() {
        b.sentence("Terms 1", "has ten times m COINS (m: 0 .. 9), and NERVE n (0 .. 5)");
        for (String good : new String[] {"00", "05", "90", "95"}) fault(LAW + "P1234" + good, NONE);
        for (String bad : new String[] {"/0", ":0", "P0"}) fault(LAW + "P1234" + bad, 13);
        for (String bad : new String[] {"06", "09", "96", "0/", "0:", "0R"}) fault(LAW + "P1234" + bad, 14);
        b.sentence("Terms 1", "PEOPLE 0, 1, .. (5 at most), sets of these bits.");
        fault(FIVE, NONE);
        fault(FIVE + ONE, 43);
        fault(FIVE + "P", 43);
        fault(FIVE + "R01" + ONE, 46);
        fault(THREE + ONE + "R01" + ONE, NONE);
        b.sentence("Terms 1", "a PERSON (numbered as they are told)");
        b.make("T0001234P910010P019021");
        b.row("person(0, ?)", 9, 1, 0, 0, 100010, 0);
        b.row("person(1, ?)", 0, 1, 9, 0, 100020, 1);
    }

    private void faultsOfRoads() {
        b.sentence("Terms 1", "a ROAD between PEOPLE i and j (unlike, told ahead; no two twice; 6 at most)");
        fault(LAW + "R", 8);
        fault(LAW + ONE + "R", 15);
        fault(LAW + ONE + "R00", 15);
        fault(TWO + "R01", NONE);
        fault(TWO + "R10", NONE);
        fault(TWO + "R00", 24);
        fault(TWO + "R11", 24);
        fault(TWO + "R02", 24);
        fault(TWO + "R12", 24);
        fault(TWO + "R2", 23);
        fault(TWO + "R20", 23);
        fault(TWO + "R/1", 23);
        fault(TWO + "R:1", 23);
        fault(TWO + "R0/", 24);
        fault(TWO + "R0:", 24);
        fault(TWO + "R12" + ONE, 24);
        fault(TWO + "R01" + ONE + "R12", NONE);
        fault(FIVE + "R34", NONE);
        fault(FIVE + "R43", NONE);
        fault(FIVE + "R35", 45);
        fault(FIVE + "R53", 44);
        fault(TWO + "R01R", 25);
        fault(THREE + "R01R01", 34);
        fault(THREE + "R01R10", 34);
        fault(THREE + "R21R12", 34);
        fault(THREE + "R01R02R0", 36);
        fault(THREE + "R01R02R12", NONE);
        fault(THREE + "R01R02R12R", 38);
    }

    private void faultsOfTheSixth() {
        b.sentence("Terms 1", "no two twice; 6 at most)");
        fault(FIVE + "R01R02R03R04R12", NONE);
        fault(FIVE + SIX_ROADS, NONE);
        fault(FIVE + SIX_ROADS + "R", 61);
        fault(FIVE + SIX_ROADS + "R34", 61);
        String four = THREE + ONE;
        fault(four + "R01R02R03R12R13R23", NONE);
        fault(four + "R01R02R03R12R13R23R", 54);
        fault(four + "R01R02R03R12R13R23" + ONE, NONE);
        fault(four + "R01R02R03R12R13R23" + ONE + "R", 61);
        b.sentence("Terms 1", "FAULT: the place (from 0) of the first byte by which THE TEXT can be no REALM, "
            + "whatever came behind it (its length set aside);");
        fault(FIVE + SIX_ROADS + "xyz", 61);
        fault(LAW + "PPPPPPPPPPPPPPPPPPPPPPPPPPPPPPPPPPPPPPPPPPPPPPPPPPPPPPPP", 9);
        fault("T".repeat(64), 1);
        fault("\0".repeat(64), 0);
    }

    /** A head of a REALM ends with a part, or is only not at its end. */
    private void faultsAtTheEnd() {
        b.sentence("Terms 1", "its length, if it is only not at its end; NONE: none.");
        String whole = FIVE + SIX_ROADS;
        for (int length = 0; length <= whole.length(); length++) {
            boolean endsWithLaw = length == 8;
            boolean endsWithPerson = length > 8 && length <= 43 && (length - 8) % 7 == 0;
            boolean endsWithRoad = length > 43 && (length - 43) % 3 == 0;
            fault(whole.substring(0, length), endsWithLaw || endsWithPerson || endsWithRoad ? NONE : length);
        }
        b.sentence("Promise 4", "FAULT; NONE.");
        b.fresh();
        b.still("fault()", 0);
        b.add("T00012");
        b.still("fault()", 6);
        b.add("34");
        b.still("fault()", NONE);
        b.add("x");
        b.still("fault()", 8);
        b.add("T0001234");
        b.still("fault()", 8);
        b.go("wipe()");
        b.still("fault()", 0);
    }

    // ---- promise 5

    private void realms() {
        b.sentence("Promise 5", "THE TEXT is THE REALM (THE TEXT itself stays; no ACTS; what was kept is gone; "
            + "ROLLS, THE SEED stay): how many PEOPLE.");
        b.make(LAW);
        b.due("about(0)", 0);
        b.make(FIVE + SIX_ROADS);
        b.due("about(0)", 5);
        b.due("about(10)", 61);
        stays();
        shrinks();
        refusedRealm();
    }

    private void stays() {
        b.make(LINE);
        b.go("declare(0, 3)", "keep(0)", "event(1)", "keep(1)", "seed(-7)");
        b.times(6, "roll(2, 8)");
        b.due("realm()", 3);
        b.due("about(10)", 35);
        b.still("undo()", LATE);
        b.still("again(0)", LATE);
        b.still("again(1)", LATE);
        b.due("about(9)", 6);
        b.still("roll(0, 0)", FULL);
        // 8 is 2's TAX by KINDS 2 and 3
        b.due("tales(1)", 12);
        b.due("seed(0)", -7);
    }

    private void shrinks() {
        b.make(LINE);
        b.go("declare(2, 1)");
        b.text("T9990019P900190");
        b.due("about(0)", 3);
        b.due("realm()", 1);
        b.row("about(?)", 1, 9, 9, 9, 19, 0, 0, 0, 0, 0, 15);
        b.due("person(0, 8)", 0);
        b.still("person(1, 8)", UNKNOWN);
        b.text(LINE);
        b.due("realm()", 3);
        b.row("person(2, ?)", 0, 0, 5, 5, 100000, 0, NONE, NONE, 2);
    }

    private void refusedRealm() {
        b.sentence("Promise 5", "LATE: a FAULT.");
        b.fresh();
        b.still("realm()", LATE);
        b.add("T000123");
        b.still("realm()", LATE);
        b.add("4");
        b.due("realm()", 0);
        b.add("P");
        b.still("realm()", LATE);
        b.make(LINE);
        b.go("keep(1)", "declare(0, 3)", "tellOn(0, 1)", "event(3)", "declare(1, 0)", "tellOn(1, 0)", "keep(0)", "roll(2, 8)",
            "seed(99)");
        b.text("T555");
        b.still("realm()", LATE);
        b.text("T5550019P001955R");
        b.still("realm()", LATE);
        b.still("fault()", 15);
        b.text("T5550019P001955P001955R01P12340");
        b.still("realm()", LATE);
        b.due("about(1)", 2);
        b.due("person(0, 7)", 0);
        b.due("undo()", 4);
    }

    // ---- promises 6 and 7

    private void abouts() {
        b.sentence("Promise 6", "PEOPLE (what = 0), RATE (1), FREE (2), PRICE (3), ODDS as four figures (4), THE DAY (5), "
            + "who is in DEBT (6: bits), ROADS (7), ACTS (8), ROLLS (9), bytes of THE TEXT (10).");
        b.fresh();
        b.row("about(?)", 0, 0, 0, 0, 1234, 0, 0, 0, 0, 0, 0);
        b.make("T9990019P001900P001900P001900P001900P001900" + SIX_ROADS);
        b.row("about(?)", 5, 9, 9, 9, 19, 0, 0, 6, 0, 0, 61);
        for (int p = 0; p < 5; p++) b.go("declare(" + p + ", 3)");
        b.add("xyz");
        b.times(6, "roll(4, 99)");
        b.row("about(?)", 5, 9, 9, 9, 19, 0, 31, 6, 5, 6, 64);
        b.times(9, "event(0)");
        b.row("about(?)", 5, 9, 9, 9, 19, 9, 31, 6, 12, 6, 64);
        b.make("T0909100");
        b.row("about(?)", 0, 0, 9, 0, 9100, 0, 0, 0, 0, 0, 8);
        b.sentence("Promise 6", "bytes of THE TEXT (10). BAD.");
        b.each("about(?)", BAD, "-1", "11", "LEAST", "MOST");
        b.fresh();
        b.each("about(?)", BAD, "-1", "11");
    }

    private void persons() {
        b.sentence("Promise 7", "Of a PERSON by how many tenths it EXPECTS KINDS 0 to 3 (what = 0 .. 3), COINS and 100000 (4), "
            + "NERVE (5), what it has DECLARED (6; NONE), HEARD (7; NONE), to whom ROADS lead (8: bits).");
        b.make("T0011234P910005P001990P123400P123403P123405R01R20R03R40");
        b.row("person(0, ?)", 9, 1, 0, 0, 100000, 5, NONE, NONE, 30);
        b.row("person(1, ?)", 0, 0, 1, 9, 100090, 0, NONE, NONE, 1);
        b.row("person(4, ?)", 1, 2, 3, 4, 100000, 5, NONE, NONE, 1);
        b.due("declare(0, 0)", 99999);
        b.go("declare(1, 3)", "tellOn(0, 4)");
        b.row("person(0, ?)", 9, 1, 0, 0, 99999, 5, 0, NONE, 30);
        b.row("person(1, ?)", 0, 0, 1, 9, 100089, 0, 3, NONE, 1);
        b.row("person(4, ?)", 1, 2, 3, 4, 100000, 5, NONE, 0, 1);
        b.due("event(0)", 0);
        b.row("person(0, ?)", 10, 0, 0, 0, 99999, 5, NONE, NONE, 30);
        b.row("person(4, ?)", 2, 2, 3, 3, 100000, 5, NONE, NONE, 1);
        b.sentence("Promise 7", "UNKNOWN; BAD.");
        b.each("person(?, 0)", UNKNOWN, "-1", "5", "LEAST", "MOST");
        b.each("person(0, ?)", BAD, "-1", "9", "LEAST", "MOST");
        b.each("person(4, ?)", BAD, "-1", "9");
        b.sentence("Terms 4", "Of several what is told first.");
        b.each("person(5, ?)", UNKNOWN, "-1", "9");
        b.make(LAW + ONE);
        b.due("person(0, 8)", 0);
        b.still("person(1, 8)", UNKNOWN);
        b.still("person(-1, 8)", UNKNOWN);
    }

    private void calls() {
        b.sentence("What it is", "An object is used for at most 512 calls after it has been made;");
        b.fresh();
        for (int call = 1; call <= 510; call++) b.due("event(3)", 0);
        b.due("event(3)", 0);
        b.due("about(5)", 511);
        b.fresh();
        for (int call = 1; call <= 255; call++) {
            b.due("keep(1)", call - 1);
            b.due("event(2)", 0);
        }
        b.due("again(1)", 254);
        b.due("about(8)", 0);
    }
}
