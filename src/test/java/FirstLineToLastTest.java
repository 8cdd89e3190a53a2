/**
 * The document read once from its first line to its last: each sentence is told in its order, as it stands
 * there, and asked about at once, by answers reckoned by hand. What comes together in the other tests least
 * (news under JOKE, BROKE, REFORM, TALES, LEAST; two objects at once) is asked here.
 */
public final class FirstLineToLastTest {
    private static final int UNKNOWN = Bench.UNKNOWN, BAD = Bench.BAD, LATE = Bench.LATE, FULL = Bench.FULL, NONE = Bench.NONE;

    /**
     * RATE 3, FREE 2, PRICE 2; four people with 50, 20, 0, 90 COINS, the last one in the midst of the ROADS.
     * TAX by KINDS: 21 12 15 18, 6 24 18 18, 24 24 21 0, 18 15 15 18.
     */
    private static final String STREET = "T3222134P143251P602222P001900P233293R01R13R23R03";
    private static final String LAW = "T0001234", ONE = "P123405";

    private final Bench b = new Bench("FirstLineToLastTest");

    public static void main(String[] args) {
        FirstLineToLastTest test = new FirstLineToLastTest();
        test.whatItIs();
        test.face();
        test.terms();
        test.promises();
        test.b.tellUnread();
        test.b.end();
    }

    private void sentence(String place, String words) {
        b.sentence(place, words);
    }

    /** What is asked of one PERSON, told as ?, is answered so by 0, 1, .. */
    private void all(String call, long... wants) {
        b.row(call, wants);
    }

    private void fraction(String call, long above, long below) {
        b.due(call + ", true)", above);
        b.due(call + ", false)", below);
    }

    private void fault(String text, long want) {
        b.fresh();
        b.add(text);
        b.due("fault()", want);
        b.due("realm()", want == NONE ? text.chars().filter(c -> c == 'P').count() : LATE);
    }

    /** 0 has DECLARED 3 and told it to both that it meets. */
    private void streetWithNews() {
        b.make(STREET);
        b.due("declare(0, 3)", 100048);
        b.due("tellOn(0, 1)", 3);
        b.due("tellOn(0, 3)", 3);
    }

    // ======== what it is

    private void whatItIs() {
        sentence("What it is", "Taxed on surprise: whoever is taken unawares pays by how much,");
        b.make(STREET);
        all("tax(0, ?)", 21, 12, 15, 18);
        all("tax(1, ?)", 6, 24, 18, 18);
        all("tax(2, ?)", 24, 24, 21, 0);
        all("tax(3, ?)", 18, 15, 15, 18);
        sentence("What it is", "told as a text with the first fault;");
        b.due("fault()", NONE);
        b.add("R14R");
        b.due("fault()", 50);
        sentence("What it is", "people by what they expect, purses and nerves, roads on which they talk;");
        all("person(0, ?)", 1, 4, 3, 2, 100050, 1, NONE, NONE, 10);
        all("person(1, ?)", 6, 0, 2, 2, 100020, 2, NONE, NONE, 9);
        all("person(2, ?)", 0, 0, 1, 9, 100000, 0, NONE, NONE, 8);
        all("person(3, ?)", 2, 3, 3, 2, 100090, 3, NONE, NONE, 7);
        daysOfTheStreet();
        outlookOfTheStreet();
        restOfTheStreet();
        callsOfOneObject();
    }

    private void daysOfTheStreet() {
        sentence("What it is", "events day by day, news bought ahead, told on at second hand, debts, habits that learn, all undone;");
        streetWithNews();
        all("tax(0, ?)", 24, 24, 24, 0);
        all("tax(1, ?)", 6, 24, 18, 9);
        all("tax(2, ?)", 24, 24, 21, 0);
        all("tax(3, ?)", 18, 15, 15, 9);
        b.due("event(2)", 24 + 18 + 21 + 15);
        all("person(?, 4)", 100024, 100002, 99979, 100075);
        b.due("about(6)", 4);
        all("person(0, ?)", 1, 3, 4, 2);
        all("person(1, ?)", 5, 0, 3, 2);
        all("person(2, ?)", 0, 0, 2, 8);
        all("person(3, ?)", 2, 2, 4, 2);
        b.due("undo()", 3);
        all("person(?, 7)", NONE, 3, NONE, 3);
        all("person(?, 4)", 100048, 100020, 100000, 100090);
        b.due("undo()", 2);
        all("person(?, 7)", NONE, 3, NONE, NONE);
        b.due("undo()", 1);
        b.due("undo()", 0);
        all("person(?, 4)", 100050, 100020, 100000, 100090);
        all("person(?, 6)", NONE, NONE, NONE, NONE);
    }

    private void outlookOfTheStreet() {
        sentence("What it is", "what one would pay, in the mean, what to declare, over some days the best way to declare and to stop;");
        b.make(STREET);
        b.due("tax(3, 0)", 18);
        fraction("mean(0", 171, 10);
        fraction("mean(1", 81, 5);
        fraction("mean(2", 27, 2);
        fraction("mean(3", 84, 5);
        // PRICE and 24 by six tenths are 16.4
        all("counsel(?)", 3, NONE, NONE, 3);
        fraction("least(0, 1", 82, 5);
        // by KINDS 0 to 2 16.4 again, by KIND 3 16.2 without
        fraction("least(0, 2", 818, 25);
        fraction("least(0, 3", 48687, 1000);
        // without any news: 12.9, 13.2, 12.6, 14.4
        fraction("least(2, 2", 1347, 50);
        sentence("What it is", "a joker's rows of events that cost others most and himself nothing;");
        b.due("joke(2, 1)", 18 + 18 + 18);
        b.due("joke(2, 2)", 54 + 15 + 15 + 15);
        b.due("joke(2, 3)", 99 + 12 + 12 + 12);
        b.due("joke(2, 4)", 135 + 9 + 9 + 9);
        all("jokeAt(2, 4, ?)", 3, 3, 3, 3, NONE);
        all("joke(?, 1)", NONE, NONE, 54, NONE);
        sentence("What it is", "after how many days one is in debt;");
        // 2 has nothing to pay 24, 24, 21 with; by KIND 3 1 pays 18 and 15 of 20
        all("broke(?)", 1, 1, 1, 2);
    }

    private void restOfTheStreet() {
        sentence("What it is", "tax rolls: what came, who knew;");
        tales(64, 15, 0);
        b.due("roll(0, 15)", 1);
        tales(8, 4, 0);
        b.due("roll(3, 0)", 2);
        tales(4, 4, 8);
        b.due("roll(2, 21)", 3);
        tales(2, 4, 8);
        b.due("roll(1, 18)", 4);
        tales(1, 4, 8);
        sentence("What it is", "schools of habit compared;");
        b.due("school(0, 0, 3, 321)", 6 + 5 + 6);
        b.due("school(0, 1, 3, 321)", 6 + 5 + 4);
        b.due("school(0, 2, 3, 321)", 6 + 8 + 8);
        sentence("What it is", "the least change of the law that leaves nobody in debt;");
        all("reform(?)", 2, 2, 2, 32);
        sentence("What it is", "who expects to be surprised, by told fixed points;");
        all("braced(?)", 2, 4, 15);
        sentence("What it is", "lotteries that are fair, couriers' prices;");
        // 22.1 by 0.4, 22.1 by 0.1, 14.5 by 0.2
        b.due("fair(0, 3, 5)", 56);
        b.due("fair(0, 1, 5)", 221);
        b.due("fair(2, 0, 1)", 73);
        all("courier(?)", 16, 16, 13, 16);
        sentence("What it is", "weeks by a seed;");
        // by 7 4 7 KINDS 3 2 3: 54, then 15 18 24 15, then 15 15 0 18
        b.due("week(1)", 1000160 - 54);
        b.due("seed(0)", 1442695040888963407L);
        b.due("week(3)", 1000160 - 54 - 72 - 48);
        sentence("What it is", "kept and gone on from.");
        b.go("event(1)", "declare(3, 0)");
        b.due("keep(1)", 1);
        b.go("event(0)");
        b.due("again(1)", 1);
        b.due("person(3, 6)", 0);
        b.due("person(3, 4)", 100000 + 90 - 15 - 2);
    }

    private void tales(long fit, long kinds, long sure) {
        b.row("tales(?)", fit, kinds, sure);
    }

    /** What later calls answer is free, so nothing is asked behind them; and one object is not another. */
    private void callsOfOneObject() {
        sentence("What it is", "An object is used for at most 512 calls after it has been made; what later calls answer is free.");
        b.fresh();
        b.text(STREET);
        b.due("realm()", 4);
        // 50 calls so far, then 115 times 4, and the last two
        for (int round = 0; round < 115; round++) {
            b.due("declare(0, 1)", 100048);
            b.due("event(1)", 0 + 24 + 24 + 15);
            b.due("undo()", 1);
            b.due("undo()", 0);
        }
        b.due("again(1)", LATE);
        b.due("person(0, 4)", 100050);
        twoObjects();
    }

    private void twoObjects() {
        SurpriseTax one = new SurpriseTax(), other = new SurpriseTax();
        for (char c : STREET.toCharArray()) {
            one.write(c);
            if (c != 'R') other.write(c == 'P' ? 'Q' : c);
        }
        b.equal("fault() of one", one.fault(), NONE);
        b.equal("fault() of the other", other.fault(), 8);
        one.realm();
        b.equal("about(0) of the other", other.about(0), 0);
        one.declare(0, 3);
        b.equal("undo() of the other", other.undo(), LATE);
        one.keep(0);
        one.roll(1, 9);
        one.seed(5);
        b.equal("again(0) of the other", other.again(0), LATE);
        b.equal("unroll() of the other", other.unroll(), 0);
        b.equal("seed(6) of the other", other.seed(6), 0);
        b.equal("event(3) of the other", other.event(3), 0);
        b.equal("about(5) of one", one.about(5), 0);
        b.equal("unroll() of one", one.unroll(), 1);
        b.equal("seed(0) of one", one.seed(0), 5);
        b.equal("undo() of one", one.undo(), 0);
    }

    // ======== the public face

    private void face() {
        sentence("The public face", "public static final int UNKNOWN = -1, BAD = -2, LATE = -3, FULL = -4, NONE = -9;");
        b.equal("UNKNOWN", SurpriseTax.UNKNOWN, -1);
        b.equal("BAD", SurpriseTax.BAD, -2);
        b.equal("LATE", SurpriseTax.LATE, -3);
        b.equal("FULL", SurpriseTax.FULL, -4);
        b.equal("NONE", SurpriseTax.NONE, -9);
    }

    // ======== terms

    private void terms() {
        kindsAndPeople();
        textAndParts();
        faultAndBeginning();
        surpriseAndTax();
        news();
        anEvent();
        acts();
        meanToLeast();
        jokes();
        debtsAhead();
        rollsAndTales();
        schoolsToCouriers();
        weeksAndSlots();
        refusals();
    }

    private void kindsAndPeople() {
        sentence("Terms 1", "EVENTS are of KINDS 0 ..");
        b.make(LAW + "P123410");
        b.each("event(?)", BAD, "-1", "4");
        for (int kind = 0; kind <= 3; kind++) b.due("event(" + kind + ")", 0);
        sentence("Terms 1", "3; PEOPLE 0, 1, .. (5 at most), sets of these bits.");
        b.make("T9091234P900190P900190P900101P900190P900111R40R42");
        b.due("declare(2, 0)", 99991);
        b.due("about(6)", 4);
        // 4 EXPECTS it by 9, so it pays 9 of its 10 COINS; then 18 by KIND 3, that all EXPECT by one tenth at most
        b.due("event(0)", 9 + 9 + 0 + 9 + 9);
        b.due("about(6)", 4);
        b.due("event(1)", 5 * 90);
        b.due("about(6)", 4 + 16 + 11);
        all("person(4, ?)", 9, 1, 0, 0, 100000 + 10 - 9 - 90, 1, NONE, NONE, 5);
        // 0, 1 and 3 always are, so 4 by 0, so 2 by 4
        all("braced(?)", 1, 31, 31);
    }

    private void textAndParts() {
        sentence("Terms 1", "THE TEXT is bytes (64 at most).");
        b.fresh();
        b.add(STREET);
        b.times(16, "write(255)");
        b.due("write(255)", FULL);
        b.due("about(10)", 64);
        sentence("Terms 1", "A REALM is a TEXT: T, RATE r (0 .. 9), FREE f (0 .. 9), PRICE c (0 .. 9), four figures (0 .. 9, 10 together): "
            + "ODDS of KINDS 0 .. 3 in tenths; then PARTS, none or more:");
        b.make("T7681090");
        all("about(?)", 0, 7, 6, 8, 1090, 0, 0, 0, 0, 0, 8);
        b.make("T7681090P109000");
        // 4 less FREE is nothing; 10 less FREE are 4; news cost 8
        all("tax(0, ?)", 7 * 3, 7 * 4, 0, 7 * 4);
        fraction("mean(0", 21, 10);
        b.due("declare(0, 2)", 99992);
        sentence("Terms 1", "a PERSON (numbered as they are told) that EXPECTS KINDS 0 .. 3 by a, b, c, d tenths (0 .. 9 each, 10 together), "
            + "has ten times m COINS (m: 0 .. 9), and NERVE n (0 .. 5)");
        b.make(LAW + "P190035P091080P500504");
        all("person(0, ?)", 1, 9, 0, 0, 100030, 5);
        all("person(1, ?)", 0, 9, 1, 0, 100080, 0);
        all("person(2, ?)", 5, 0, 0, 5, 100000, 4);
        sentence("Terms 1", "a ROAD between PEOPLE i and j (unlike, told ahead; no two twice; 6 at most)");
        b.make(LAW + ONE + ONE + "R10" + ONE + "R20R21" + ONE + "R13");
        all("person(?, 8)", 2 + 4, 1 + 4 + 8, 1 + 2, 2);
        b.due("about(7)", 4);
    }

    private void faultAndBeginning() {
        sentence("Terms 1", "FAULT: the place (from 0) of the first byte by which THE TEXT can be no REALM, whatever came behind it "
            + "(its length set aside); its length, if it is only not at its end; NONE: none.");
        fault("T3222134P1455", 12);
        fault("T3222134P1432", 13);
        fault("T3222134P14326", 14);
        fault("T3222134P143266", 14);
        fault("T3222134P143251R", 15);
        fault(STREET + "R02R12", NONE);
        fault(STREET + "R02R12R", 54);
        fault(STREET + "R02R12P", 55);
        fault(STREET + "R02R3", 52);
        fault(STREET + "R02R31", 52);
        fault(STREET + "R02R21", NONE);
        // 3 has a ROAD to each, so it can begin none; 1 can, but not to 3
        fault(STREET + "R31", 49);
        fault(STREET + "R13", 50);
        fault(STREET + "R22", 50);
        fault(STREET + "T", 48);
        sentence("Terms 1", "At first RATE, FREE, PRICE are 0, ODDS 1, 2, 3, 4, there is nobody. THE DAY is 0, nobody has DECLARED or HEARD "
            + "anything, and when THE REALM is made anew.");
        b.fresh();
        all("about(?)", 0, 0, 0, 0, 1234, 0);
        streetWithNews();
        b.go("event(0)", "declare(1, 1)", "tellOn(1, 0)", "tellOn(1, 3)");
        all("person(?, 7)", 1, NONE, NONE, 1);
        b.due("realm()", 4);
        b.due("about(5)", 0);
        all("person(?, 6)", NONE, NONE, NONE, NONE);
        all("person(?, 7)", NONE, NONE, NONE, NONE);
        all("person(?, 4)", 100050, 100020, 100000, 100090);
        all("person(0, ?)", 1, 4, 3, 2);
    }

    private void surpriseAndTax() {
        sentence("Terms 1", "SURPRISE of one by an EVENT of a KIND: 10 less the tenths by which it is EXPECTED, less FREE (0 at least); "
            + "if one has DECLARED that KIND, none; if it has DECLARED another one, 10 less FREE; "
            + "else, if it has HEARD that KIND, half of it (cut).");
        b.make("T1301234P721000P721000P721000R01R02R12");
        all("tax(0, ?)", 0, 5, 6, 7);
        b.go("declare(0, 1)", "tellOn(0, 1)", "tellOn(0, 2)");
        all("tax(0, ?)", 7, 0, 7, 7);
        all("tax(1, ?)", 0, 2, 6, 7);
        b.go("declare(1, 0)");
        all("tax(1, ?)", 0, 7, 7, 7);
        all("tax(2, ?)", 0, 2, 6, 7);
        sentence("Terms 1", "TAX: RATE times that.");
        b.make("T8301234P721000P721000P721000R01R02R12");
        b.go("declare(0, 1)", "tellOn(0, 1)");
        all("tax(0, ?)", 56, 0, 56, 56);
        all("tax(1, ?)", 0, 16, 48, 56);
        all("tax(2, ?)", 0, 40, 48, 56);
        sentence("Terms 1", "Who is in DEBT (has less than no COINS) pays it all the same.");
        b.due("declare(1, 3)", 100000);
        b.due("about(6)", 0);
        b.due("event(2)", 56 + 56 + 48);
        b.due("about(6)", 7);
        // each EXPECTS 6 2 2 0 now
        b.due("event(2)", 3 * 8 * 5);
        all("person(?, 4)", 100000 - 56 - 40, 100000 - 56 - 40, 100000 - 48 - 40);
    }

    private void news() {
        sentence("Terms 1", "DECLARED: one, that has not so far, pays PRICE, and says which KIND comes (this DAY).");
        b.make(STREET);
        b.due("declare(2, 1)", 99998);
        b.due("about(6)", 4);
        b.due("declare(2, 0)", LATE);
        b.due("person(2, 6)", 1);
        b.due("event(1)", 12 + 24 + 0 + 15);
        b.due("person(2, 6)", NONE);
        b.due("declare(2, 0)", 99996);
        sentence("Terms 1", "HEARD: one that has DECLARED tells one to which a ROAD leads (both ways), that has DECLARED nothing "
            + "and HEARD nothing.");
        b.due("tellOn(2, 3)", 0);
        b.due("tellOn(2, 3)", LATE);
        b.due("tellOn(2, 0)", LATE);
        b.due("tellOn(3, 0)", LATE);
        b.due("declare(3, 2)", 100000 + 90 - 15 - 2);
        b.due("tellOn(3, 2)", LATE);
        b.due("tellOn(3, 0)", 2);
        b.due("tellOn(3, 1)", 2);
        all("person(?, 7)", 2, 2, NONE, 0);
        // 0 EXPECTS 1 5 2 2, 1 5 1 2 2
        b.due("event(2)", 9 + 9 + 24 + 0);
    }

    private void anEvent() {
        sentence("Terms 1", "AN EVENT: each pays its TAX; then its HABIT learns: the KIND that came is EXPECTED by one tenth more, "
            + "the one of the others that is EXPECTED most (of like ones the least) by one less (if it is EXPECTED by 10 already, "
            + "nothing moves); nobody has DECLARED or HEARD anything any more, THE DAY is one more.");
        streetWithNews();
        b.due("event(3)", 0 + 9 + 0 + 9);
        all("person(0, ?)", 1, 3, 3, 3, 100048, 1, NONE, NONE);
        all("person(1, ?)", 5, 0, 2, 3, 100011, 2, NONE, NONE);
        all("person(2, ?)", 0, 0, 0, 10, 100000, 0, NONE, NONE);
        all("person(3, ?)", 2, 2, 3, 3, 100081, 3, NONE, NONE);
        b.due("about(5)", 1);
        b.due("event(3)", 15 + 15 + 0 + 15);
        all("person(0, ?)", 1, 2, 3, 4);
        all("person(1, ?)", 4, 0, 2, 4);
        all("person(2, ?)", 0, 0, 0, 10);
        all("person(3, ?)", 2, 2, 2, 4);
        b.due("event(0)", 21 + 12 + 24 + 18);
        all("person(0, ?)", 2, 2, 3, 3);
        all("person(1, ?)", 5, 0, 2, 3);
        all("person(2, ?)", 1, 0, 0, 9);
        all("person(3, ?)", 3, 2, 2, 3);
        b.due("about(5)", 3);
        all("person(?, 4)", 100012, 99984, 99976, 100048);
        b.due("about(6)", 6);
    }

    private void acts() {
        sentence("Terms 1", "ACTS (DECLARED, HEARD, EVENTS) are a row (12 at most; when it is full, the first one is forgotten); "
            + "the last one can be undone.");
        streetWithNews();
        b.due("declare(1, 0)", 100018);
        b.due("tellOn(1, 3)", LATE);
        b.due("undo()", 3);
        // it has HEARD, as it had
        b.due("person(1, 6)", NONE);
        b.due("person(1, 7)", 3);
        b.due("person(1, 4)", 100020);
        b.due("tellOn(0, 1)", LATE);
        b.due("undo()", 2);
        b.due("undo()", 1);
        b.due("tellOn(0, 1)", 3);
        b.due("about(8)", 2);
        // by three ACTS a DAY the 13th forgets that 0 DECLARED first
        for (int day = 0; day < 3; day++) b.go("event(3)", "declare(0, 3)", "tellOn(0, 1)");
        b.due("about(8)", 11);
        b.go("event(3)");
        b.due("about(8)", 12);
        b.go("event(3)");
        b.due("about(8)", 12);
        for (int left = 11; left >= 0; left--) b.due("undo()", left);
        b.due("undo()", LATE);
        b.due("about(5)", 0);
        all("person(?, 6)", 3, NONE, NONE, NONE);
        all("person(?, 7)", NONE, NONE, NONE, NONE);
        all("person(?, 4)", 100048, 100020, 100000, 100090);
    }

    private void meanToLeast() {
        sentence("Terms 2", "In what follows nothing is changed.");
        streetWithNews();
        b.changesNothing("tax(1, 3)", "mean(1, true)", "counsel(1)", "least(3, 3, true)", "joke(0, 4)", "jokeAt(0, 1, 0)", "broke(2)",
            "reform(1)");
        b.changesNothing("tales(0)", "tales(2)", "school(1, 0, 8, 12301230)", "school(1, 2, 8, 0)", "braced(1)", "fair(1, 2, 9)",
            "courier(1)", "fault()", "about(6)", "person(3, 7)");
        sentence("Terms 2", "MEAN of one: TAX of today's EVENT, by ODDS: a FRACTION.");
        // 24 by six tenths; 6, 24, 18, 9; 18, 15, 15, 9 by 2 1 3 4
        fraction("mean(0", 72, 5);
        fraction("mean(1", 63, 5);
        fraction("mean(2", 27, 2);
        fraction("mean(3", 66, 5);
        sentence("Terms 2", "COUNSEL: what it should DECLARE, if it has not: the KIND by which PRICE and MEAN are least together, "
            + "NONE if that is no less than without; of like ones the least.");
        all("counsel(?)", LATE, NONE, NONE, NONE);
        b.make("T1014330P550000P127000");
        // PRICE and 10 by six tenths are 7: by KIND 0, not by KINDS 1 or 2; 6.5 and 6.5 without
        all("counsel(?)", NONE, NONE);
        b.due("event(3)", 20);
        // 4 5 0 1: 2.4, 1.5, 3 are 6.9; 1 2 6 1: 3.6, 2.4, 1.2 are 7.2
        all("counsel(?)", NONE, 0);
        b.make("T1003340P333100P334000");
        all("counsel(?)", 2, 2);
        b.make("T1004420P333100");
        all("counsel(?)", 0);
        leasts();
    }

    private void leasts() {
        sentence("Terms 2", "LEAST over n DAYS (1 .. 3): the least mean of all it pays from now on, if each morning (this one, too, "
            + "if it has not DECLARED) it may DECLARE something or not, knowing what came so far (its HABIT learns; "
            + "it HEARS nothing more): a FRACTION.");
        b.make("T1025005P505090P505090R01");
        // 7.5 without, 7 by news; then 7 or 7.5; then 6.5, 7, 7, 7
        fraction("least(0, 1", 7, 1);
        fraction("least(0, 2", 14, 1);
        fraction("least(0, 3", 167, 8);
        // 5 today: what was paid for the news does not come again
        b.due("declare(0, 3)", 100088);
        fraction("least(0, 1", 5, 1);
        fraction("least(0, 3", 151, 8);
        b.due("tellOn(0, 1)", 3);
        // half of 10 by KIND 3, 5 by KIND 0
        fraction("least(1, 1", 5, 1);
        fraction("least(1, 3", 151, 8);
    }

    private void jokes() {
        sentence("Terms 2", "JOKE: a row of n EVENTS (1 .. 4) from now on (nobody DECLARES more) by which PERSON j pays nothing, "
            + "and the others pay most together: how much; its EVENTS; of like ones the first by KINDS; NONE: there is none.");
        b.make("T1001234P910090P550090P001990R01");
        all("joke(?, 1)", NONE, NONE, NONE);
        b.due("declare(1, 0)", 100090);
        b.due("tellOn(1, 0)", 0);
        // half of 1 is nothing, cut; then 0 EXPECTS it by 10
        all("joke(?, 1)", 10, 10, NONE);
        b.due("joke(0, 2)", 10 + 4 + 9);
        all("jokeAt(0, 2, ?)", 0, 0, NONE);
        b.due("joke(1, 2)", NONE);
        b.due("jokeAt(1, 2, 0)", NONE);
        streetWithNews();
        all("joke(?, 1)", 18, NONE, 18, NONE);
        b.due("joke(0, 2)", NONE);
        b.due("joke(2, 2)", 18 + 45);
    }

    private void debtsAhead() {
        sentence("Terms 2", "BROKE by a KIND: after how many EVENTS of it, one each DAY (0 .. 30; nobody DECLARES more), "
            + "somebody is first in DEBT; NONE.");
        b.make("T2101234P433010P343090R01");
        // 18; 10 and 8
        b.due("broke(3)", 1);
        b.due("broke(0)", 2);
        b.go("declare(1, 3)", "tellOn(1, 0)");
        // half of 9 is 4, so 8, then 16
        b.due("broke(3)", 2);
        b.due("broke(0)", 2);
        sentence("Terms 2", "REFORM for a KIND: of all RATES and FREES (0 .. 9 each) by which nobody is in DEBT behind one EVENT of it now, "
            + "the one that differs least from those there are (both differences together), of like ones the least RATE, then FREE; NONE.");
        b.make("T5201234P001910P001900R01");
        all("reform(?)", 2, 2, 2, 52);
        b.due("declare(1, 2)", 100000);
        // RATE times 9 less FREE is 10 at most
        b.due("reform(2)", 12);
        b.due("tellOn(1, 0)", 2);
        // half of that, cut: 3 times 3 and 5 times 2, each at 2
        b.due("reform(2)", 32);
        b.due("reform(3)", 2);
        b.make("T3221234P550000");
        b.due("declare(0, 0)", 99998);
        all("reform(?)", NONE, NONE, NONE, NONE);
    }

    private void rollsAndTales() {
        sentence("Terms 3", "ROLLS: that a PERSON paid t (0 .. 99) of TAX (PRICE aside), as all else is when a TALE is asked for "
            + "(not as it was when it was told); 6 such at most, none at first (of those that are not there any more nothing is looked at).");
        b.make(STREET);
        b.due("roll(2, 24)", 1);
        tales(16, 3, 0);
        // 2 EXPECTS 1 0 0 9 then
        b.due("event(0)", 21 + 6 + 24 + 18);
        tales(8, 2, 0);
        b.due("declare(2, 3)", 100000 - 24 - 2);
        tales(24, 7, 0);
        b.text("T3222134P143251P602222");
        b.due("realm()", 2);
        tales(16, 15, 0);
        b.due("roll(1, 6)", 2);
        tales(2, 1, 0);
        sentence("Terms 3", "A TALE: a KIND that came, and a set of PEOPLE that had DECLARED it, of those that have not DECLARED or HEARD "
            + "anything now (others as they are): it FITS, if each of ROLLS is so.");
        b.make("T1001234P532090P532090P532090R01");
        b.go("declare(0, 1)", "tellOn(0, 1)");
        // 2 alone is open; 1 pays 5, 3, 8, 10
        tales(8, 15, 0);
        b.go("roll(1, 3)");
        tales(2, 2, 0);
        b.go("roll(0, 0)", "roll(2, 7)");
        tales(1, 2, 0);
        sentence("Terms 3", "How many TALES FIT; which KINDS may have come (bits); who surely DECLARED it (of those, bits).");
        b.go("unroll()", "declare(1, 0)");
        tales(8, 15, 0);
        // by what it DECLARED 1 pays 10 by KINDS 1, 2, 3
        b.go("roll(1, 10)");
        tales(6, 14, 0);
        b.go("roll(2, 0)");
        tales(3, 14, 4);
        b.go("roll(0, 0)");
        tales(1, 2, 4);
        b.go("roll(0, 10)");
        tales(0, 0, NONE);
    }

    private void schoolsToCouriers() {
        sentence("Terms 3", "SCHOOL: a row of n EVENTS (1 .. 8) told; all that one SURPRISES itself in these (nothing DECLARED, HEARD), "
            + "if its HABIT learns as it does (0), does not (1), or EXPECTS behind each EVENT just what came, by 10 tenths (2).");
        streetWithNews();
        b.go("event(2)", "declare(1, 0)");
        // 1 EXPECTS 5 0 3 2
        b.due("school(1, 0, 2, 2)", 3 + 6);
        b.due("school(1, 1, 2, 2)", 3 + 5);
        b.due("school(1, 2, 2, 2)", 3 + 8);
        sentence("Terms 3", "BRACED: a set of PEOPLE, so that one is of it just if as many as its NERVE or more of those to which ROADS lead "
            + "from it are: how many such sets there are; the least by bits, the greatest.");
        b.make("T0001234P123402P123402P123401P123401P123403R01R12R23R30R04R14");
        // nobody, 2 and 3, all but 4
        all("braced(?)", 3, 0, 15);
        sentence("Terms 3", "FAIR: one stakes s COINS (1 .. 9) on a KIND: how many COINS, whole ones, must come to it at least, if that KIND "
            + "comes, so that in the mean it has its stake and its MEAN back (by ODDS); NONE: that KIND has no ODDS.");
        b.make("T2003331P334090P433090R10");
        // 14 is the MEAN of each: 15 and 23 by 0.3, 23 by 0.1
        b.due("fair(0, 0, 1)", 50);
        b.due("fair(0, 2, 9)", 77);
        b.due("fair(0, 3, 9)", 230);
        b.due("fair(1, 1, 1)", 50);
        b.go("declare(1, 2)", "tellOn(1, 0)");
        // 12.2 by what is HEARD, 14 by what is DECLARED
        b.due("fair(0, 0, 1)", 44);
        b.due("fair(0, 1, 2)", 48);
        b.due("fair(1, 2, 4)", 60);
        sentence("Terms 3", "COURIER: how many COINS, cut, sure news of today's EVENT is worth to one (by which it would pay nothing at all): "
            + "all that it pays in the mean by COUNSEL (its PRICE, too).");
        b.due("courier(0)", 12);
        b.make(STREET);
        all("courier(?)", 16, 16, 13, 16);
        b.go("declare(0, 3)", "tellOn(0, 1)", "tellOn(0, 3)");
        all("courier(?)", LATE, 12, 13, 13);
    }

    private void weeksAndSlots() {
        sentence("Terms 3", "A WEEK by THE SEED: m DAYS (1 .. 30), of each x (THE SEED, a long; 0 at first) becomes x times 6364136223846793005 "
            + "and 1442695040888963407 (64 bits, wrapping); by what is left of its upper 31 bits by 10 and ODDS (the first KIND whose ODDS, "
            + "with those ahead, are more than that) an EVENT comes (nobody DECLARES more; what is DECLARED, HEARD now counts on the first "
            + "DAY): all COINS of all then, and 1000000. (Nothing changes but THE SEED.)");
        streetWithNews();
        b.due("week(1)", 1000158 - 18);
        b.due("seed(0)", 1442695040888963407L);
        b.due("week(2)", 1000158 - 18 - 72);
        b.due("seed(0)", 1876011003808476466L);
        b.changesNothing("week(30)", "seed(0)");
        // by 7 4 7 6 5 1 KINDS 3 2 3 3 2 0, EXPECTED by 2, 3, 2, 3, 2, 2
        b.make("T3222134P233293");
        b.due("week(6)", 1000090 - 18 - 15 - 18 - 15 - 18 - 18);
        sentence("Terms 3", "SLOTS 0 .. 1 keep what all EXPECT, COINS, DECLARED, HEARD, THE DAY (no ACTS when one goes on).");
        streetWithNews();
        b.due("keep(1)", 0);
        b.go("event(2)", "event(2)", "declare(1, 1)");
        b.due("keep(0)", 2);
        b.due("undo()", 5);
        b.due("again(1)", 0);
        b.due("about(8)", 0);
        all("person(0, ?)", 1, 4, 3, 2, 100048, 1, 3, NONE);
        all("person(1, ?)", 6, 0, 2, 2, 100020, 2, NONE, 3);
        b.due("again(0)", 2);
        all("person(1, ?)", 4, 0, 4, 2, 100000 + 20 - 18 - 15 - 2, 2, 1, NONE);
        b.due("undo()", LATE);
        b.due("again(1)", 0);
        b.due("event(3)", 18);
        b.due("undo()", 0);
    }

    private void refusals() {
        sentence("Terms 4", "REFUSALS: UNKNOWN -1 (there is no such PERSON, SLOT), BAD -2 (a KIND that there is not, too), LATE -3, FULL -4.");
        b.make(STREET);
        b.due("tax(4, 0)", -1);
        b.due("keep(2)", -1);
        b.due("tax(3, 4)", -2);
        b.due("again(1)", -3);
        b.times(6, "roll(0, 0)");
        b.due("roll(0, 0)", -4);
        sentence("Terms 4", "Of several what is told first.");
        b.due("roll(4, 100)", -1);
        b.due("roll(0, 100)", -2);
        sentence("Terms 4", "What is refused changes nothing.");
        streetWithNews();
        b.changesNothing("declare(0, 0)", "declare(1, 4)", "tellOn(0, 2)", "tellOn(0, 1)", "event(4)", "roll(3, 100)", "keep(2)",
            "again(0)", "write(256)", "week(31)");
        sentence("Terms 4", "NONE is -9.");
        b.due("person(1, 6)", -9);
        sentence("Terms 4", "FRACTIONS are told above (upper = true), below, in least terms.");
        fraction("mean(1", 63, 5);
        b.make("T0222134P143251");
        fraction("mean(0", 0, 1);
        fraction("least(0, 3", 0, 1);
    }

    // ======== promises

    private void promises() {
        promises1To5();
        promises6To11();
        promises12To19();
        promises20To26();
        promises27To30();
    }

    private void promises1To5() {
        sentence("Promise 1", "`SurpriseTax()`: Nobody.");
        b.fresh();
        b.each("braced(?)", 0, "1", "2");
        all("broke(?)", NONE, NONE, NONE, NONE);
        all("reform(?)", 0, 0, 0, 0);
        b.due("event(2)", 0);
        b.due("undo()", 0);
        sentence("Promise 2", "`int write(int letter)`: A byte (0 .. 255) comes behind THE TEXT: how long it is. BAD; FULL: there are 64.");
        b.due("write(84)", 1);
        b.due("write(256)", BAD);
        b.due("write(-1)", BAD);
        b.due("write(0)", 2);
        b.times(62, "write(255)");
        b.due("write(0)", FULL);
        sentence("Promise 3", "`int wipe()`: THE TEXT is empty: how long it was.");
        b.due("wipe()", 64);
        b.due("wipe()", 0);
        sentence("Promise 4", "`int fault()`: FAULT; NONE.");
        b.due("fault()", 0);
        b.add("T3222134");
        b.due("fault()", NONE);
        b.add("p");
        b.due("fault()", 8);
        sentence("Promise 5", "`int realm()`: THE TEXT is THE REALM (THE TEXT itself stays; no ACTS; what was kept is gone; "
            + "ROLLS, THE SEED stay): how many PEOPLE. LATE: a FAULT.");
        b.due("realm()", LATE);
        b.due("about(1)", 0);
        b.text(STREET);
        b.due("realm()", 4);
        b.go("event(0)", "keep(0)", "roll(3, 15)", "seed(-8)");
        b.due("realm()", 4);
        b.due("about(10)", 48);
        b.due("again(0)", LATE);
        b.due("undo()", LATE);
        tales(16, 6, 0);
        b.due("seed(0)", -8);
    }

    private void promises6To11() {
        sentence("Promise 6", "`int about(int what)`: PEOPLE (what = 0), RATE (1), FREE (2), PRICE (3), ODDS as four figures (4), THE DAY (5), "
            + "who is in DEBT (6: bits), ROADS (7), ACTS (8), ROLLS (9), bytes of THE TEXT (10). BAD.");
        b.make(STREET);
        all("about(?)", 4, 3, 2, 2, 2134, 0, 0, 4, 0, 0, 48, BAD);
        sentence("Promise 7", "`int person(int person, int what)`: Of a PERSON by how many tenths it EXPECTS KINDS 0 to 3 (what = 0 .. 3), "
            + "COINS and 100000 (4), NERVE (5), what it has DECLARED (6; NONE), HEARD (7; NONE), to whom ROADS lead (8: bits). UNKNOWN; BAD.");
        all("person(3, ?)", 2, 3, 3, 2, 100090, 3, NONE, NONE, 7, BAD);
        b.due("person(4, 0)", UNKNOWN);
        sentence("Promise 8", "`int declare(int person, int kind)`: DECLARED: its COINS then, and 100000. "
            + "UNKNOWN; BAD: kind; LATE: it has DECLARED.");
        b.due("declare(2, 1)", 99998);
        b.due("declare(2, 1)", LATE);
        b.due("declare(2, 4)", BAD);
        b.due("declare(4, 1)", UNKNOWN);
        sentence("Promise 9", "`int tellOn(int person, int other)`: HEARD: which KIND. UNKNOWN: both; LATE: the first one has DECLARED nothing, "
            + "no ROAD leads there, or the other one has DECLARED or HEARD.");
        b.due("tellOn(3, 2)", LATE);
        b.due("tellOn(2, 1)", LATE);
        b.due("tellOn(2, 3)", 1);
        b.due("tellOn(2, 3)", LATE);
        b.due("tellOn(2, 4)", UNKNOWN);
        b.due("tellOn(4, 2)", UNKNOWN);
        sentence("Promise 10", "`int event(int kind)`: AN EVENT: all TAX that is paid. BAD: kind.");
        b.due("event(4)", BAD);
        b.due("event(1)", 12 + 24 + 0 + 6);
        all("person(?, 4)", 100038, 99996, 99998, 100084);
        b.due("about(6)", 6);
        all("person(0, ?)", 1, 5, 2, 2);
        all("person(3, ?)", 2, 4, 2, 2);
        sentence("Promise 11", "`int undo()`: The last ACT is undone: how many are left. LATE: there is none.");
        b.due("undo()", 2);
        all("person(3, ?)", 2, 3, 3, 2, 100090, 3, NONE, 1);
        b.due("undo()", 1);
        b.due("undo()", 0);
        b.due("undo()", LATE);
    }

    private void promises12To19() {
        b.make(STREET);
        sentence("Promise 12", "`int tax(int person, int kind)`: TAX, if a KIND comes now. UNKNOWN; BAD.");
        all("tax(3, ?)", 18, 15, 15, 18, BAD);
        b.due("tax(4, 0)", UNKNOWN);
        sentence("Promise 13", "`int mean(int person, boolean upper)`: MEAN. UNKNOWN.");
        b.go("declare(1, 0)");
        fraction("mean(1", 96, 5);
        fraction("mean(4", UNKNOWN, UNKNOWN);
        sentence("Promise 14", "`int counsel(int person)`: COUNSEL; NONE. UNKNOWN; LATE: it has DECLARED.");
        all("counsel(?)", 3, LATE, NONE, 3, UNKNOWN);
        sentence("Promise 15", "`int least(int person, int n, boolean upper)`: LEAST. UNKNOWN; BAD: n.");
        fraction("least(3, 1", 82, 5);
        // 16.4, 16.4, 16.2, 15.9 by KINDS
        fraction("least(3, 2", 1627, 50);
        fraction("least(3, 4", BAD, BAD);
        fraction("least(4, 4", UNKNOWN, UNKNOWN);
        sentence("Promise 16", "`int joke(int person, int n)`: JOKE: how much; NONE. UNKNOWN; BAD: n.");
        // by KIND 3 1, that has DECLARED 0, pays 24; it pays nothing itself by KIND 0
        all("joke(?, 1)", NONE, 21 + 24 + 18, 18 + 24 + 18, NONE, UNKNOWN);
        b.due("joke(2, 0)", BAD);
        sentence("Promise 17", "`int jokeAt(int person, int n, int i)`: The i-th EVENT (from 0) of it; NONE: there is none such. UNKNOWN; BAD: n.");
        all("jokeAt(?, 1, 0)", NONE, 0, 3, NONE, UNKNOWN);
        b.due("jokeAt(2, 1, 1)", NONE);
        b.due("jokeAt(2, 5, 0)", BAD);
        sentence("Promise 18", "`int broke(int kind)`: BROKE; NONE. BAD.");
        // by KIND 3 1 pays 24 of 18
        all("broke(?)", 1, 1, 1, 1, BAD);
        sentence("Promise 19", "`int reform(int kind)`: REFORM: ten times its RATE, and FREE; NONE. BAD.");
        // by KIND 3 1 has to pay 18 at most: 2 times 8, 3 times 6 would be FREE 4
        all("reform(?)", 2, 2, 2, 22, BAD);
    }

    private void promises20To26() {
        b.make(STREET);
        sentence("Promise 20", "`int roll(int person, int t)`: ROLLS: how many there are. UNKNOWN; BAD: t; FULL: 6.");
        all("roll(?, 18)", 1, 2, 3, 4, UNKNOWN);
        b.due("roll(1, 100)", BAD);
        b.due("roll(1, 0)", 5);
        b.due("roll(1, 0)", 6);
        b.due("roll(1, 0)", FULL);
        sentence("Promise 21", "`int unroll()`: Nothing is on ROLLS: how much was.");
        b.due("unroll()", 6);
        b.due("unroll()", 0);
        sentence("Promise 22", "`int tales(int what)`: TALES: how many FIT (what = 0), which KINDS may have come (1: bits), "
            + "who surely DECLARED it (2: bits; NONE: no TALE fits). BAD.");
        b.go("roll(3, 18)", "roll(1, 0)");
        // KINDS 0 and 3, with 1, without 3
        all("tales(?)", 8, 9, 2, BAD);
        b.go("roll(0, 12)");
        all("tales(?)", 0, 0, NONE, BAD);
        sentence("Promise 23", "`int school(int person, int school, int n, int row)`: SCHOOL: all SURPRISES together. "
            + "UNKNOWN; BAD: school (0 .. 2), n, row (0 or more, n figures at most, 0 .. 3 each).");
        // 2 3 3 2, 2 2 3 3, 2 2 2 4, 1 2 2 5, then 1 1 2 6
        b.due("school(3, 0, 5, 33330)", 6 + 5 + 4 + 3 + 7);
        all("school(3, ?, 2, 33)", 11, 12, 6, BAD);
        b.each("school(3, 0, 2, ?)", BAD, "-1", "4", "40", "333");
        b.due("school(4, 3, 2, 33)", UNKNOWN);
        b.due("school(3, 0, 9, 33)", BAD);
        sentence("Promise 24", "`int braced(int what)`: BRACED: how many sets (what = 0), the least (1: bits), the greatest (2: bits); "
            + "NONE (of 1, 2): there is none. BAD.");
        all("braced(?)", 2, 4, 15, BAD);
        sentence("Promise 25", "`int fair(int person, int kind, int s)`: FAIR; NONE. UNKNOWN; BAD: kind, s.");
        // 16.2 and 9 by 0.2, 0.1, 0.3, 0.4
        all("fair(1, ?, 9)", 126, 252, 84, 63, BAD);
        b.due("fair(1, 0, 10)", BAD);
        b.due("fair(4, 0, 10)", UNKNOWN);
        sentence("Promise 26", "`int courier(int person)`: COURIER. UNKNOWN; LATE: it has DECLARED.");
        all("courier(?)", 16, 16, 13, 16, UNKNOWN);
        b.go("declare(2, 2)");
        all("courier(?)", 16, 16, LATE, 16, UNKNOWN);
    }

    private void promises27To30() {
        sentence("Promise 27", "`long seed(long v)`: THE SEED is v: what it was.");
        b.make(STREET);
        b.due("seed(MOST)", 0);
        b.due("seed(-3)", Long.MAX_VALUE);
        sentence("Promise 28", "`int week(int m)`: A WEEK. BAD: m.");
        b.due("week(0)", BAD);
        b.due("week(31)", BAD);
        b.due("seed(0)", -3);
        b.due("week(2)", 1000160 - 54 - 72);
        sentence("Promise 29", "`int keep(int slot)`: They are kept: THE DAY. UNKNOWN.");
        b.go("event(1)", "event(1)");
        b.due("keep(0)", 2);
        b.due("keep(2)", UNKNOWN);
        b.due("keep(-1)", UNKNOWN);
        sentence("Promise 30", "`int again(int slot)`: They are as they were kept: THE DAY. UNKNOWN; LATE: none were kept.");
        b.go("event(0)", "undo()", "undo()");
        b.due("about(5)", 1);
        b.due("again(0)", 2);
        b.due("again(1)", LATE);
        b.due("again(2)", UNKNOWN);
        // 2 pays 24 by KIND 1, then 21
        b.due("person(2, 4)", 100000 - 24 - 21);
    }
}
