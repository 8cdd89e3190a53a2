/** What is refused, of all calls side by side: the last PERSON, KIND, SLOT that there is, and the first that there is not. */
public final class BoundariesOfRefusalsTest {
    private static final int UNKNOWN = Bench.UNKNOWN, BAD = Bench.BAD, LATE = Bench.LATE, FULL = Bench.FULL, NONE = Bench.NONE;

    /** Each pays 3, 2, 1, 0 by the KINDS, 1 in the mean. */
    private static final String FIVE = "T1691234P123490P123490P123490P123490P123490R04R01R12";

    private final Bench b = new Bench("BoundariesOfRefusalsTest");

    public static void main(String[] args) {
        BoundariesOfRefusalsTest test = new BoundariesOfRefusalsTest();
        test.names();
        test.people();
        test.kinds();
        test.slots();
        test.inOrder();
        test.nothingChanges();
        test.b.end();
    }

    private void names() {
        b.sentence("Terms 4", "REFUSALS: UNKNOWN -1 (there is no such PERSON, SLOT), BAD -2 (a KIND that there is not, too), LATE -3, "
            + "FULL -4.");
        b.fresh();
        b.still("person(0, 0)", SurpriseTax.UNKNOWN);
        b.still("person(0, 0)", -1);
        b.still("event(4)", SurpriseTax.BAD);
        b.still("event(4)", -2);
        b.still("undo()", SurpriseTax.LATE);
        b.still("undo()", -3);
        b.times(64, "write(0)");
        b.still("write(0)", SurpriseTax.FULL);
        b.still("write(0)", -4);
        b.sentence("Terms 4", "NONE is -9.");
        b.make(FIVE);
        b.still("person(0, 6)", SurpriseTax.NONE);
        b.still("person(0, 6)", -9);
    }

    /** Calls of one PERSON, told as ?, and what all five of FIVE are answered. */
    private static final Object[][] OF_PEOPLE = {
        {"person(?, 0)", 1}, {"person(?, 3)", 4}, {"person(?, 4)", 100090}, {"person(?, 5)", 0}, {"person(?, 7)", NONE},
        {"tax(?, 0)", 3}, {"tax(?, 3)", 0}, {"mean(?, true)", 1}, {"mean(?, false)", 1}, {"counsel(?)", NONE},
        {"least(?, 1, true)", 1}, {"least(?, 1, false)", 1}, {"joke(?, 1)", 0}, {"jokeAt(?, 1, 0)", 3}, {"jokeAt(?, 1, 1)", NONE},
        {"school(?, 1, 1, 0)", 3}, {"school(?, 2, 8, 33333333)", 0}, {"fair(?, 0, 1)", 20}, {"fair(?, 3, 9)", 25}, {"courier(?)", 1}};

    private void people() {
        b.sentence("Terms 4", "UNKNOWN -1 (there is no such PERSON, SLOT)");
        b.make(FIVE);
        for (Object[] row : OF_PEOPLE) {
            b.each((String) row[0], (int) row[1], "0", "4");
            b.each((String) row[0], UNKNOWN, "-1", "5", "LEAST", "MOST");
        }
        b.each("declare(?, 0)", UNKNOWN, "-1", "5");
        b.due("declare(4, 0)", 100081);
        b.due("declare(0, 3)", 100081);
        b.each("tellOn(4, ?)", UNKNOWN, "-1", "5");
        b.each("tellOn(?, 1)", UNKNOWN, "-1", "5");
        b.due("tellOn(0, 1)", 3);
        b.each("roll(?, 0)", UNKNOWN, "-1", "5");
        b.due("roll(4, 0)", 1);
        b.due("roll(0, 0)", 2);
        b.make("T1691234P123490P123490");
        for (Object[] row : OF_PEOPLE) {
            b.each((String) row[0], (int) row[1], "1");
            b.each((String) row[0], UNKNOWN, "2");
        }
        b.fresh();
        for (Object[] row : OF_PEOPLE) b.each((String) row[0], UNKNOWN, "0");
    }

    private void kinds() {
        b.sentence("Terms 4", "BAD -2 (a KIND that there is not, too)");
        b.make(FIVE);
        String[] ofKinds = {"declare(0, ?)", "event(?)", "tax(0, ?)", "broke(?)", "reform(?)", "fair(0, ?, 1)",
            "school(0, 0, 1, ?)"};
        for (String call : ofKinds) b.each(call, BAD, "-9", "-2", "-1", "4", "5", "LEAST", "MOST");
        b.each("broke(?)", NONE, "0", "3");
        b.each("reform(?)", 16, "0", "3");
        b.still("fair(4, 0, 9)", 100);
        b.still("fair(4, 3, 1)", 5);
        b.still("school(4, 1, 1, 3)", 0);
        b.due("declare(1, 0)", 100081);
        b.due("declare(2, 3)", 100081);
        // 2 has DECLARED it, 1 another one; then all EXPECT 1 2 2 5
        b.due("event(3)", 4);
        b.due("event(0)", 15);
    }

    private void slots() {
        b.sentence("Terms 3", "SLOTS 0 .. 1 keep what all EXPECT");
        b.make(FIVE);
        for (String call : new String[] {"keep(?)", "again(?)"}) b.each(call, UNKNOWN, "-9", "-1", "2", "3", "LEAST", "MOST");
        b.each("again(?)", LATE, "0", "1");
        b.due("keep(0)", 0);
        b.due("again(0)", 0);
        b.still("again(1)", LATE);
        b.due("keep(1)", 0);
        b.due("again(1)", 0);
    }

    private void inOrder() {
        b.sentence("Terms 4", "Of several what is told first.");
        b.make(FIVE);
        b.go("declare(0, 3)");
        // UNKNOWN ahead of BAD, of LATE and of FULL
        b.still("person(5, 9)", UNKNOWN);
        b.still("declare(5, 4)", UNKNOWN);
        b.still("tellOn(1, 5)", UNKNOWN);
        b.still("tax(5, 4)", UNKNOWN);
        b.still("least(5, 4, true)", UNKNOWN);
        b.still("joke(5, 5)", UNKNOWN);
        b.still("jokeAt(5, 5, 5)", UNKNOWN);
        b.still("roll(5, 100)", UNKNOWN);
        b.still("school(5, 3, 9, 4)", UNKNOWN);
        b.still("fair(5, 4, 10)", UNKNOWN);
        b.times(6, "roll(0, 0)");
        b.still("roll(5, 0)", UNKNOWN);
        // BAD ahead of LATE, FULL and NONE
        b.each("declare(0, ?)", BAD, "-1", "4");
        b.each("declare(0, ?)", LATE, "0", "3");
        b.each("roll(4, ?)", BAD, "-1", "100");
        b.each("roll(4, ?)", FULL, "0", "99");
        b.each("jokeAt(0, ?, 9)", BAD, "0", "5");
        b.times(12, "write(0)");
        b.due("about(10)", 64);
        b.each("write(?)", BAD, "-1", "256");
        b.each("write(?)", FULL, "0", "255");
        b.make("T1690019P123490");
        b.each("fair(0, 0, ?)", BAD, "0", "10");
        b.each("fair(0, 0, ?)", NONE, "1", "9");
    }

    /** Behind a full row of ACTS, with both SLOTS kept, ROLLS and THE TEXT full, one refused call of each sort. */
    private void nothingChanges() {
        b.sentence("Terms 4", "What is refused changes nothing.");
        b.make(FIVE);
        b.go("event(0)", "declare(0, 3)", "tellOn(0, 1)", "keep(0)", "event(3)");
        b.times(9, "event(1)");
        b.go("keep(1)", "declare(4, 2)", "tellOn(4, 0)");
        b.times(6, "roll(1, 3)");
        b.times(12, "write(0)");
        b.go("seed(12345)");
        b.due("about(8)", 12);
        String[] calls = {"write(256) -2", "write(0) -4", "realm() -3", "about(11) -2", "person(5, 0) -1", "person(0, 9) -2",
            "declare(5, 0) -1", "declare(0, 4) -2", "declare(4, 0) -3", "tellOn(4, 5) -1", "tellOn(4, 1) -3", "tellOn(0, 1) -3",
            "tellOn(4, 0) -3", "event(4) -2", "event(-1) -2", "tax(5, 0) -1", "tax(0, 4) -2", "mean(5, true) -1",
            "counsel(5) -1", "counsel(4) -3", "least(5, 1, true) -1", "least(0, 4, true) -2", "joke(5, 1) -1", "joke(0, 5) -2",
            "jokeAt(5, 1, 0) -1", "jokeAt(0, 5, 0) -2", "broke(4) -2", "reform(4) -2", "roll(5, 0) -1", "roll(0, 100) -2",
            "roll(0, 99) -4", "tales(3) -2", "school(5, 0, 1, 0) -1", "school(0, 3, 1, 0) -2", "school(0, 0, 9, 0) -2",
            "school(0, 0, 1, 4) -2", "braced(3) -2", "fair(5, 0, 1) -1", "fair(0, 4, 1) -2", "fair(0, 0, 10) -2", "courier(5) -1",
            "courier(4) -3", "week(0) -2", "week(31) -2", "keep(2) -1", "again(2) -1"};
        for (String told : calls) {
            int end = told.lastIndexOf(' ');
            b.still(told.substring(0, end), Integer.parseInt(told.substring(end + 1)));
        }
        for (int left = 11; left >= 0; left--) b.due("undo()", left);
        b.still("undo()", LATE);
        // the first three ACTS are forgotten: 0 has DECLARED 3, and it stays so
        b.row("person(0, ?)", 2, 2, 3, 3, 100078, 0, 3, NONE, 18);
        b.due("about(5)", 1);
    }
}
