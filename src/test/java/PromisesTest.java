/** Each promise by answers that were reckoned by hand: ordinary calls, edges, wrong arguments. */
public final class PromisesTest {
    private static final int UNKNOWN = -1, BAD = -2, LATE = -3, FULL = -4, NONE = -9;

    /** RATE 2, FREE 1, PRICE 3; three people on a line. TAX by kinds: 10 12 14 16, 16 14 12 10, 18 18 8 8. */
    private static final String LINE = "T2130325P432131P123412P005500R01R12";
    /** RATE 1; one that EXPECTS KINDS 2 and 3 by half each, with 30 COINS. */
    private static final String HALVES = "T1000055P005530";

    private final Due due = new Due("PromisesTest");
    private SurpriseTax x = new SurpriseTax();

    public static void main(String[] args) {
        PromisesTest test = new PromisesTest();
        test.text();
        test.realm();
        test.acts();
        test.payments();
        test.outlooks();
        test.rolls();
        test.schoolsAndNerves();
        test.news();
        test.weeks();
        test.slots();
        test.due.end();
    }

    private void is(String call, long got, long want) {
        due.is(call, got, want);
    }

    private void write(String text) {
        x.wipe();
        for (char c : text.toCharArray()) x.write(c);
    }

    private void make(String text) {
        x = new SurpriseTax();
        write(text);
        is("realm() of " + text, x.realm(), text.chars().filter(c -> c == 'P').count());
    }

    /** All that about and person tell. */
    private String all() {
        StringBuilder told = new StringBuilder();
        for (int what = 0; what <= 10; what++) told.append(x.about(what)).append(' ');
        for (int p = 0; p < 5; p++) {
            for (int what = 0; what <= 8; what++) told.append(x.person(p, what)).append(' ');
        }
        return told.toString();
    }

    private void same(String what, String was) {
        due.holds(what + " changes nothing", all().equals(was));
    }

    private void habit(int p, int a, int b, int c, int d) {
        is("person(" + p + ", 0)", x.person(p, 0), a);
        is("person(" + p + ", 1)", x.person(p, 1), b);
        is("person(" + p + ", 2)", x.person(p, 2), c);
        is("person(" + p + ", 3)", x.person(p, 3), d);
    }

    private void aboutRow(int... want) {
        for (int what = 0; what < want.length; what++) is("about(" + what + ")", x.about(what), want[what]);
    }

    // ---- promises 1 to 7

    private void text() {
        newObject();
        writing();
        wiping();
        faultOfLaw();
        faultOfPeople();
        faultOfRoads();
    }

    private void newObject() {
        x = new SurpriseTax();
        aboutRow(0, 0, 0, 0, 1234, 0, 0, 0, 0, 0, 0);
        is("person(0, 0)", x.person(0, 0), UNKNOWN);
        is("undo()", x.undo(), LATE);
        is("again(0)", x.again(0), LATE);
        is("again(1)", x.again(1), LATE);
        is("unroll()", x.unroll(), 0);
        is("tales(0)", x.tales(0), 4);
        is("week(30)", x.week(30), 1000000);
        is("UNKNOWN", SurpriseTax.UNKNOWN, UNKNOWN);
        is("BAD", SurpriseTax.BAD, BAD);
        is("LATE", SurpriseTax.LATE, LATE);
        is("FULL", SurpriseTax.FULL, FULL);
        is("NONE", SurpriseTax.NONE, NONE);
    }

    private void writing() {
        x = new SurpriseTax();
        is("write(-1)", x.write(-1), BAD);
        is("write(256)", x.write(256), BAD);
        is("write(least)", x.write(Integer.MIN_VALUE), BAD);
        is("write(most)", x.write(Integer.MAX_VALUE), BAD);
        is("about(10)", x.about(10), 0);
        is("write(0)", x.write(0), 1);
        is("write(255)", x.write(255), 2);
        for (int i = 3; i <= 64; i++) is("write(84)", x.write(84), i);
        is("write(84) of 64", x.write(84), FULL);
        is("write(256) of 64", x.write(256), BAD);
        is("about(10)", x.about(10), 64);
    }

    private void wiping() {
        x = new SurpriseTax();
        is("wipe()", x.wipe(), 0);
        write("T12");
        is("wipe()", x.wipe(), 3);
        is("wipe()", x.wipe(), 0);
        is("about(10)", x.about(10), 0);
        is("write(84)", x.write(84), 1);
    }

    /** On a new object each time, for behind 512 calls what one answers is free. */
    private void fault(String text, int want) {
        x = new SurpriseTax();
        write("P");
        write(text);
        String was = all();
        is("fault() of " + text, x.fault(), want);
        same("fault()", was);
        int people = x.about(0);
        is("realm() of " + text, x.realm(), want == NONE ? text.chars().filter(c -> c == 'P').count() : LATE);
        if (want != NONE) is("PEOPLE by no realm", x.about(0), people);
    }

    private void faultOfLaw() {
        fault("", 0);
        fault("t", 0);
        fault("P", 0);
        fault("\0", 0);
        fault("T", 1);
        fault("TT", 1);
        fault("T/", 1);
        fault("T:", 1);
        fault("T9", 2);
        fault("T99", 3);
        fault("T999", 4);
        fault("T9x9", 2);
        fault("T99x", 3);
        fault("T00055", 6);
        fault("T000556", 6);
        fault("T000550", 7);
        fault("T0005501", 7);
        fault("T000000", 6);
        fault("T000001", 7);
        fault("T0000018", 7);
        fault("T0000019", NONE);
        fault("T0009100", NONE);
        fault("T000919", 5 + 1);
        fault("T000920", 5);
        fault("T0001234", NONE);
        fault("T0001234 ", 8);
        fault("T00012344", 8);
        fault("T0001234T", 8);
        fault("T0001234p", 8);
        fault("T0001234R", 8);
        // bytes that were wiped are not read again
        x = new SurpriseTax();
        write("T0001234");
        is("fault()", x.fault(), NONE);
        write("T000123");
        is("fault()", x.fault(), 7);
        write("");
        is("fault()", x.fault(), 0);
    }

    private void faultOfPeople() {
        String law = "T0001234", one = "P123405";
        fault(law + "P", 9);
        fault(law + "P0019", 13);
        fault(law + "P0018", 12);
        fault(law + "P99", 10);
        fault(law + "P00191", 14);
        fault(law + "P0019/", 13);
        fault(law + "P001996", 14);
        fault(law + "P001995", NONE);
        fault(law + "P00199/", 14);
        fault(law + "P0019P", 13);
        fault(law + one + one + one + one + one, NONE);
        fault(law + one + one + one + one + one + "P", 43);
        fault(law + one + one + one + one + one + "P123405", 43);
        fault(law + one + "R", 15);
        fault(law + one + one + "R01R", 25);
    }

    private void faultOfRoads() {
        String two = "T0001234P123405P123405", three = two + "P123405", five = three + "P123405P123405";
        fault(two + "R", 23);
        fault(two + "R0", 24);
        fault(two + "R01", NONE);
        fault(two + "R10", NONE);
        fault(two + "R11", 24);
        fault(two + "R00", 24);
        fault(two + "R02", 24);
        fault(two + "R2", 23);
        fault(two + "R/", 23);
        fault(two + "R01R10", 25);
        fault(two + "R01P123405R", 33);
        fault(two + "R01P123405R12R0", 37);
        fault(two + "R12P123405", 24);
        fault(three + "R01R02R0", 36);
        fault(three + "R01R02R1", 37);
        fault(three + "R01R02R10", 37);
        fault(three + "R01R02R12", NONE);
        fault(three + "R01R02R21R", 38);
        fault(five + "R01R02R03R04R12R13", NONE);
        fault(five + "R01R02R03R04R12R13R", 61);
        fault(five + "R01R02R03R04R0", 56);
        fault(five + "R01R02R03R04R12RR4", 59);
        // 64 bytes that are only not at their end: the length is no fault of theirs
        fault("T0001234P123405R", 15);
        fault(five + "R01R02R03R04R12R13xyz", 61);
    }

    private void realm() {
        make(LINE);
        aboutRow(3, 2, 1, 3, 325, 0, 0, 2, 0, 0, 35);
        is("about(-1)", x.about(-1), BAD);
        is("about(11)", x.about(11), BAD);
        is("about(least)", x.about(Integer.MIN_VALUE), BAD);
        people();
        madeAnew();
        refusedRealm();
    }

    private void people() {
        habit(0, 4, 3, 2, 1);
        habit(1, 1, 2, 3, 4);
        habit(2, 0, 0, 5, 5);
        int[][] want = {{100030, 1, NONE, NONE, 2}, {100010, 2, NONE, NONE, 5}, {100000, 0, NONE, NONE, 2}};
        for (int p = 0; p < 3; p++) {
            for (int i = 0; i < 5; i++) is("person(" + p + ", " + (4 + i) + ")", x.person(p, 4 + i), want[p][i]);
        }
        is("person(3, 0)", x.person(3, 0), UNKNOWN);
        is("person(-1, 0)", x.person(-1, 0), UNKNOWN);
        is("person(3, 9)", x.person(3, 9), UNKNOWN);
        is("person(0, 9)", x.person(0, 9), BAD);
        is("person(0, -1)", x.person(0, -1), BAD);
        is("person(most, 0)", x.person(Integer.MAX_VALUE, 0), UNKNOWN);
    }

    private void madeAnew() {
        make(LINE);
        x.declare(0, 3);
        x.tellOn(0, 1);
        x.event(3);
        x.declare(0, 3);
        x.tellOn(0, 1);
        x.keep(0);
        x.keep(1);
        x.roll(2, 18);
        x.seed(77);
        is("realm()", x.realm(), 3);
        people();
        aboutRow(3, 2, 1, 3, 325, 0, 0, 2, 0, 1, 35);
        is("undo()", x.undo(), LATE);
        is("again(0)", x.again(0), LATE);
        is("again(1)", x.again(1), LATE);
        is("seed(0)", x.seed(0), 77);
        write("T0009100");
        is("realm()", x.realm(), 0);
        aboutRow(0, 0, 0, 0, 9100, 0, 0, 0, 0, 1, 8);
        is("person(0, 0)", x.person(0, 0), UNKNOWN);
    }

    private void refusedRealm() {
        make(LINE);
        x.declare(0, 3);
        x.keep(0);
        write("T999555");
        String was = all();
        is("realm()", x.realm(), LATE);
        same("realm() refused", was);
        is("again(0)", x.again(0), 0);
        write("T9990055P");
        is("realm()", x.realm(), LATE);
        is("about(1)", x.about(1), 2);
        is("about(10)", x.about(10), 9);
    }

    // ---- promises 8 to 11

    private void acts() {
        declaring();
        telling();
        events();
        undoing();
        forgetting();
    }

    private void declaring() {
        make(LINE);
        String was = all();
        is("declare(3, 0)", x.declare(3, 0), UNKNOWN);
        is("declare(-1, 9)", x.declare(-1, 9), UNKNOWN);
        is("declare(0, 4)", x.declare(0, 4), BAD);
        is("declare(0, -1)", x.declare(0, -1), BAD);
        is("declare(0, NONE)", x.declare(0, NONE), BAD);
        same("a refused declare", was);
        is("declare(0, 3)", x.declare(0, 3), 100027);
        is("person(0, 4)", x.person(0, 4), 100027);
        is("person(0, 6)", x.person(0, 6), 3);
        is("about(8)", x.about(8), 1);
        is("declare(0, 3) again", x.declare(0, 3), LATE);
        is("declare(0, 1)", x.declare(0, 1), LATE);
        is("declare(0, 4)", x.declare(0, 4), BAD);
        is("about(8)", x.about(8), 1);
        is("declare(2, 0) with no COINS", x.declare(2, 0), 99997);
        is("about(6)", x.about(6), 4);
        is("person(2, 6)", x.person(2, 6), 0);
        is("declare(1, 0)", x.declare(1, 0), 100007);
    }

    private void telling() {
        make(LINE);
        is("tellOn(0, 1), nothing DECLARED", x.tellOn(0, 1), LATE);
        x.declare(0, 3);
        String was = all();
        is("tellOn(0, 3)", x.tellOn(0, 3), UNKNOWN);
        is("tellOn(3, 0)", x.tellOn(3, 0), UNKNOWN);
        is("tellOn(0, -1)", x.tellOn(0, -1), UNKNOWN);
        is("tellOn(0, 2), no ROAD", x.tellOn(0, 2), LATE);
        is("tellOn(0, 0)", x.tellOn(0, 0), LATE);
        is("tellOn(0, 32)", x.tellOn(0, 32), UNKNOWN);
        same("a refused tellOn", was);
        is("tellOn(0, 1)", x.tellOn(0, 1), 3);
        is("person(1, 7)", x.person(1, 7), 3);
        is("person(1, 6)", x.person(1, 6), NONE);
        is("person(1, 4)", x.person(1, 4), 100010);
        is("about(8)", x.about(8), 2);
        is("tellOn(0, 1), HEARD", x.tellOn(0, 1), LATE);
        is("tellOn(1, 2), only HEARD", x.tellOn(1, 2), LATE);
        is("declare(1, 2), HEARD", x.declare(1, 2), 100007);
        is("person(1, 7)", x.person(1, 7), 3);
        is("tellOn(1, 0), DECLARED", x.tellOn(1, 0), LATE);
        is("tellOn(1, 2)", x.tellOn(1, 2), 2);
        is("tellOn(2, 1)", x.tellOn(2, 1), LATE);
        make(LINE);
        x.declare(1, 0);
        is("tellOn(1, 0)", x.tellOn(1, 0), 0);
        is("tellOn(1, 2)", x.tellOn(1, 2), 0);
        is("person(0, 7)", x.person(0, 7), 0);
    }

    private void events() {
        make(LINE);
        String was = all();
        is("event(4)", x.event(4), BAD);
        is("event(-1)", x.event(-1), BAD);
        same("a refused event", was);
        is("event(3)", x.event(3), 16 + 10 + 8);
        is("COINS of 0", x.person(0, 4), 100014);
        is("COINS of 1", x.person(1, 4), 100000);
        is("COINS of 2", x.person(2, 4), 99992);
        aboutRow(3, 2, 1, 3, 325, 1, 4, 2, 1, 0, 35);
        habit(0, 3, 3, 2, 2);
        habit(1, 1, 2, 2, 5);
        habit(2, 0, 0, 4, 6);
        is("event(3)", x.event(3), 14 + 8 + 6);
        habit(0, 2, 3, 2, 3);
        habit(1, 1, 1, 2, 6);
        is("COINS of 2, in DEBT", x.person(2, 4), 99986);
        is("COINS of 1, in DEBT", x.person(1, 4), 99992);
        is("about(6)", x.about(6), 6);
        write("T2130325P432131");
        is("realm() of fewer", x.realm(), 1);
        is("about(6)", x.about(6), 0);
        eventOnNews();
        eventOfTheExpected();
    }

    private void eventOnNews() {
        make(LINE);
        x.declare(0, 3);
        x.tellOn(0, 1);
        is("event(3)", x.event(3), 0 + 4 + 8);
        is("person(0, 6)", x.person(0, 6), NONE);
        is("person(1, 7)", x.person(1, 7), NONE);
        habit(0, 3, 3, 2, 2);
        habit(1, 1, 2, 2, 5);
        make(LINE);
        x.declare(0, 3);
        x.tellOn(0, 1);
        is("event(0)", x.event(0), 18 + 16 + 18);
        is("declare(0, 0) a DAY later", x.declare(0, 0), 100000 + 30 - 3 - 18 - 3);
        is("tellOn(0, 1)", x.tellOn(0, 1), 0);
    }

    private void eventOfTheExpected() {
        make("T1000055P910010");
        is("event(0)", x.event(0), 1);
        habit(0, 10, 0, 0, 0);
        is("event(0)", x.event(0), 0);
        habit(0, 10, 0, 0, 0);
        is("event(2)", x.event(2), 10);
        habit(0, 9, 0, 1, 0);
        make("T9900055P910010");
        is("event(0), FREE 9", x.event(0), 0);
        is("event(2), FREE 9", x.event(2), 9);
        make("T1000055P055010");
        x.event(3);
        habit(0, 0, 4, 5, 1);
        x.event(1);
        habit(0, 0, 5, 4, 1);
        x.event(1);
        habit(0, 0, 6, 3, 1);
    }

    private void undoing() {
        make(LINE);
        String first = all();
        x.declare(0, 3);
        String second = all();
        x.tellOn(0, 1);
        String third = all();
        x.event(3);
        x.roll(0, 1);
        is("undo() of an EVENT", x.undo(), 2);
        is("about(9)", x.about(9), 1);
        x.unroll();
        same("undo() of an EVENT", third);
        is("undo() of HEARD", x.undo(), 1);
        same("undo() of HEARD", second);
        is("undo() of DECLARED", x.undo(), 0);
        same("undo() of DECLARED", first);
        is("undo() of nothing", x.undo(), LATE);
        same("undo() refused", first);
    }

    private void forgetting() {
        make(LINE);
        String[] behind = new String[30];
        for (int i = 0; i < 30; i++) {
            x.event(i % 4);
            if (i == 17 || i == 21 || i == 22) behind[i] = all();
            is("about(8)", x.about(8), Math.min(12, i + 1));
        }
        for (int left = 11; left >= 0; left--) {
            is("undo()", x.undo(), left);
            is("about(5)", x.about(5), 18 + left);
        }
        is("undo() of a forgotten one", x.undo(), LATE);
        habitsAre(behind[17]);
        for (int i = 18; i < 23; i++) x.event(i % 4);
        habitsAre(behind[22]);
        is("undo()", x.undo(), 4);
        habitsAre(behind[21]);
    }

    /** All but the ACTS themselves. */
    private void habitsAre(String want) {
        String[] got = all().split(" "), then = want.split(" ");
        for (int i = 0; i < got.length; i++) {
            if (i != 8) is("cell " + i, Integer.parseInt(got[i]), Integer.parseInt(then[i]));
        }
    }

    // ---- promises 12 to 15

    private void payments() {
        taxes();
        means();
        counsels();
        leasts();
    }

    private void taxes() {
        make(LINE);
        int[][] want = {{10, 12, 14, 16}, {16, 14, 12, 10}, {18, 18, 8, 8}};
        String was = all();
        for (int p = 0; p < 3; p++) {
            for (int k = 0; k < 4; k++) is("tax(" + p + ", " + k + ")", x.tax(p, k), want[p][k]);
        }
        same("tax", was);
        is("tax(3, 0)", x.tax(3, 0), UNKNOWN);
        is("tax(-1, 4)", x.tax(-1, 4), UNKNOWN);
        is("tax(0, 4)", x.tax(0, 4), BAD);
        is("tax(0, -1)", x.tax(0, -1), BAD);
        x.declare(0, 3);
        x.tellOn(0, 1);
        is("tax(0, 3) DECLARED", x.tax(0, 3), 0);
        is("tax(0, 0) another DECLARED", x.tax(0, 0), 18);
        is("tax(1, 3) HEARD, 5 halved", x.tax(1, 3), 4);
        is("tax(1, 2) another HEARD", x.tax(1, 2), 12);
        x.declare(1, 2);
        is("tax(1, 2) DECLARED", x.tax(1, 2), 0);
        is("tax(1, 3) another DECLARED, HEARD", x.tax(1, 3), 18);
        make("T3901234P900195");
        is("tax(0, 0), 0 at least", x.tax(0, 0), 0);
        is("tax(0, 1)", x.tax(0, 1), 3);
        is("tax(0, 3)", x.tax(0, 3), 0);
    }

    private void fraction(String call, int above, int below, int wantAbove, int wantBelow) {
        is(call + " above", above, wantAbove);
        is(call + " below", below, wantBelow);
    }

    private void mean(int p, int above, int below) {
        fraction("mean(" + p + ")", x.mean(p, true), x.mean(p, false), above, below);
    }

    private void means() {
        make(LINE);
        mean(0, 72, 5);
        mean(1, 58, 5);
        mean(2, 11, 1);
        is("mean(3)", x.mean(3, true), UNKNOWN);
        is("mean(-1)", x.mean(-1, false), UNKNOWN);
        x.declare(0, 3);
        mean(0, 9, 1);
        x.tellOn(0, 1);
        mean(1, 43, 5);
        make("T0001234P432100");
        mean(0, 0, 1);
        make("T7000019P001900");
        mean(0, 63, 5);
        x.event(0);
        mean(0, 7 * (9 + 9 * 2), 10);
    }

    private void counsels() {
        make(LINE);
        String was = all();
        is("counsel(0): 12 for 14.4", x.counsel(0), 3);
        is("counsel(1): 12 for 11.6", x.counsel(1), NONE);
        is("counsel(2): 12 for 11", x.counsel(2), NONE);
        is("counsel(3)", x.counsel(3), UNKNOWN);
        is("counsel(-1)", x.counsel(-1), UNKNOWN);
        same("counsel", was);
        x.declare(0, 1);
        is("counsel(0), DECLARED", x.counsel(0), LATE);
        make("T1000055P550000P001900P190000R01R12");
        is("counsel(0), of like ones", x.counsel(0), 2);
        is("counsel(1), 5 for 5", x.counsel(1), NONE);
        make("T1010019P550000P001900R01");
        is("counsel(0), 2 for 10", x.counsel(0), 3);
        x.declare(1, 3);
        x.tellOn(1, 0);
        is("counsel(0), 2 for 5.5", x.counsel(0), 3);
        make("T1060019P550000P001900R01");
        is("counsel(0), 7 for 10", x.counsel(0), 3);
        x.declare(1, 3);
        x.tellOn(1, 0);
        is("counsel(0), 7 for 5.5", x.counsel(0), NONE);
        make("T1509100P001900");
        is("counsel(0), first KIND", x.counsel(0), 0);
    }

    private void least(int p, int n, int above, int below) {
        String call = "least(" + p + ", " + n + ")";
        fraction(call, x.least(p, n, true), x.least(p, n, false), above, below);
    }

    private void leasts() {
        make("T1090019P550090P019090R01");
        String was = all();
        least(0, 1, 10, 1);
        least(0, 2, 959, 50);
        least(0, 3, 1377, 50);
        same("least", was);
        is("least(2, 1)", x.least(2, 1, true), UNKNOWN);
        is("least(2, 9)", x.least(2, 9, true), UNKNOWN);
        is("least(0, 0)", x.least(0, 0, true), BAD);
        is("least(0, 4)", x.least(0, 4, false), BAD);
        is("least(-1, 1)", x.least(-1, 1, false), UNKNOWN);
        x.declare(1, 3);
        x.tellOn(1, 0);
        least(0, 1, 11, 2);
        least(0, 2, 367, 25);
        x.declare(0, 3);
        least(0, 1, 1, 1);
        least(0, 2, 509, 50);
        make("T1010019P550090");
        least(0, 1, 2, 1);
        least(0, 2, 4, 1);
        least(0, 3, 6, 1);
        x.declare(0, 2);
        least(0, 1, 9, 1);
        least(0, 3, 13, 1);
        make("T0010019P550090");
        least(0, 3, 0, 1);
    }

    // ---- promises 16 to 19

    private void outlooks() {
        jokes();
        jokesByNews();
        brokes();
        reforms();
    }

    private void joke(int p, int n, int paid, int... row) {
        is("joke(" + p + ", " + n + ")", x.joke(p, n), paid);
        for (int i = 0; i < n; i++) {
            is("jokeAt(" + p + ", " + n + ", " + i + ")", x.jokeAt(p, n, i), row.length == 0 ? NONE : row[i]);
        }
        is("jokeAt ahead", x.jokeAt(p, n, -1), NONE);
        is("jokeAt behind", x.jokeAt(p, n, n), NONE);
    }

    private void jokes() {
        make("T1501234P500590P055090");
        String was = all();
        joke(0, 1, 5, 0);
        joke(0, 2, 9, 0, 0);
        joke(0, 3, 12, 0, 0, 0);
        joke(0, 4, 14, 0, 0, 0, 0);
        joke(1, 1, 5, 1);
        joke(1, 2, 9, 1, 1);
        same("joke", was);
        for (int n : new int[] {0, 5, -1, Integer.MAX_VALUE, Integer.MIN_VALUE}) {
            is("joke(0, n)", x.joke(0, n), BAD);
            is("jokeAt(0, n, 0)", x.jokeAt(0, n, 0), BAD);
            is("joke(2, n)", x.joke(2, n), UNKNOWN);
            is("jokeAt(2, n, 0)", x.jokeAt(2, n, 0), UNKNOWN);
        }
        is("jokeAt(-1, 1, 9)", x.jokeAt(-1, 1, 9), UNKNOWN);
        is("jokeAt(0, 1, most)", x.jokeAt(0, 1, Integer.MAX_VALUE), NONE);
        // 0 pays nothing by 0 or 3; 1 EXPECTS 0 more than 3
        make("T1501234P500590P541090");
        joke(0, 1, 5, 3);
        joke(0, 2, 9, 3, 3);
        make("T0001234P500590");
        joke(0, 2, 0, 0, 0);
        make("T1001234P500590P055090");
        joke(0, 1, NONE);
        joke(1, 4, NONE);
    }

    private void jokesByNews() {
        make("T1001234P432190P123490");
        x.declare(0, 2);
        joke(0, 1, 7, 2);
        joke(0, 2, NONE);
        joke(1, 1, NONE);
        // FREE 6 spares 0 by turns, and by turns 1 pays 4 and 4, not 4 and 3
        make("T1601234P550090P006490");
        joke(0, 2, 8, 0, 1);
        make("T1501234P009190P550090");
        joke(0, 1, 5, 2);
        x.declare(0, 3);
        joke(0, 1, 5, 3);
        joke(0, 2, 10, 3, 2);
    }

    private void brokes() {
        make(HALVES);
        String was = all();
        is("broke(2), 15 in all", x.broke(2), NONE);
        is("broke(0), 10 9 8 7", x.broke(0), 4);
        is("broke(4)", x.broke(4), BAD);
        is("broke(-1)", x.broke(-1), BAD);
        same("broke", was);
        x.declare(0, 0);
        is("broke(0), 0 9 8 7 6 5", x.broke(0), 6);
        is("broke(1), 10 9 8 7", x.broke(1), 4);
        make("T1000055P005510");
        is("broke(0), 10 is no DEBT yet", x.broke(0), 2);
        x.event(0);
        is("broke(0)", x.broke(0), 1);
        x.event(0);
        is("broke(3) in DEBT", x.broke(3), 0);
        make(LINE);
        is("broke(0)", x.broke(0), 1);
        x.declare(2, 0);
        is("broke(0) in DEBT by PRICE", x.broke(0), 0);
        make("T0001234P432100");
        is("broke(0) without RATE", x.broke(0), NONE);
    }

    private void reforms() {
        make(HALVES);
        is("reform(0) as it is", x.reform(0), 10);
        is("reform(4)", x.reform(4), BAD);
        is("reform(-1)", x.reform(-1), BAD);
        make("T5201234P432110");
        String was = all();
        is("reform(3)", x.reform(3), 12);
        same("reform", was);
        make("T5201234P432120");
        is("reform(3), of like ones", x.reform(3), 22);
        is("reform(0), 20 for 20", x.reform(0), 52);
        x.declare(0, 3);
        is("reform(3), DECLARED", x.reform(3), 52);
        is("reform(0), another DECLARED", x.reform(0), 22);
        make("T9001234P432100");
        is("reform(3) without COINS: as far to 0 0 as to 9 9", x.reform(3), 0);
        is("reform(0) without COINS: FREE 6", x.reform(0), 96);
        x.event(0);
        is("reform(0) in DEBT", x.reform(0), NONE);
        make("T9901234P901000");
        is("reform(3), 9 is the most FREE", x.reform(3), 9);
        make("T1001234P432100");
        is("reform(3)", x.reform(3), 0);
        make("T1801234P432100");
        is("reform(3)", x.reform(3), 8);
        make("T5001234P432190P432140");
        is("reform(3) for the poorer", x.reform(3), 40);
    }

    // ---- promises 20 to 22

    private void rolls() {
        rolling();
        tales();
        talesByNews();
        talesOfTheGone();
    }

    private void rolling() {
        make(LINE);
        is("roll(3, 0)", x.roll(3, 0), UNKNOWN);
        is("roll(-1, 100)", x.roll(-1, 100), UNKNOWN);
        is("roll(0, -1)", x.roll(0, -1), BAD);
        is("roll(0, 100)", x.roll(0, 100), BAD);
        is("about(9)", x.about(9), 0);
        is("roll(0, 0)", x.roll(0, 0), 1);
        is("roll(0, 0) twice", x.roll(0, 0), 2);
        is("roll(2, 99)", x.roll(2, 99), 3);
        for (int i = 4; i <= 6; i++) is("roll(1, 1)", x.roll(1, 1), i);
        is("roll(1, 1)", x.roll(1, 1), FULL);
        is("roll(1, 100) of 6", x.roll(1, 100), BAD);
        is("roll(3, 1) of 6", x.roll(3, 1), UNKNOWN);
        is("about(9)", x.about(9), 6);
        is("about(8)", x.about(8), 0);
        is("unroll()", x.unroll(), 6);
        is("about(9)", x.about(9), 0);
        is("unroll()", x.unroll(), 0);
        is("roll(1, 1)", x.roll(1, 1), 1);
    }

    private void talesAre(int fit, int kinds, int sure) {
        is("tales(0)", x.tales(0), fit);
        is("tales(1)", x.tales(1), kinds);
        is("tales(2)", x.tales(2), sure);
    }

    private void tales() {
        make(LINE);
        talesAre(32, 15, 0);
        is("tales(3)", x.tales(3), BAD);
        is("tales(-1)", x.tales(-1), BAD);
        x.roll(0, 12);
        String was = all();
        talesAre(4, 2, 0);
        same("tales", was);
        x.roll(1, 0);
        talesAre(2, 2, 2);
        x.roll(2, 18);
        talesAre(1, 2, 2);
        x.roll(2, 0);
        talesAre(0, 0, NONE);
        x.unroll();
        x.roll(2, 0);
        talesAre(16, 15, 4);
        x.unroll();
        x.roll(0, 13);
        talesAre(0, 0, NONE);
        x.unroll();
        x.roll(2, 8);
        talesAre(8, 12, 0);
        x.unroll();
        x.roll(0, 12);
        x.event(3);
        // EXPECTS now 3 3 2 2: as all else is when the TALE is asked for
        talesAre(8, 3, 0);
    }

    private void talesByNews() {
        make(LINE);
        x.declare(0, 3);
        talesAre(16, 15, 0);
        x.tellOn(0, 1);
        talesAre(8, 15, 0);
        x.roll(0, 0);
        talesAre(2, 8, 0);
        x.roll(1, 4);
        talesAre(2, 8, 0);
        x.roll(2, 0);
        talesAre(1, 8, 4);
        x.roll(1, 0);
        talesAre(0, 0, NONE);
        x.unroll();
        x.roll(0, 18);
        talesAre(6, 7, 0);
        make("T0001234P123400");
        x.roll(0, 0);
        talesAre(8, 15, 0);
    }

    private void talesOfTheGone() {
        make(LINE);
        x.roll(2, 7);
        talesAre(0, 0, NONE);
        write("T2130325P432131P123412");
        is("realm()", x.realm(), 2);
        is("about(9)", x.about(9), 1);
        talesAre(16, 15, 0);
        write(LINE);
        is("realm()", x.realm(), 3);
        talesAre(0, 0, NONE);
        is("unroll()", x.unroll(), 1);
    }

    // ---- promises 23 and 24

    private void schoolsAndNerves() {
        schools();
        schoolRefusals();
        nerves();
    }

    private void schools() {
        make(LINE);
        String was = all();
        is("school(0, 1, 4, 3210)", x.school(0, 1, 4, 3210), 8 + 7 + 6 + 5);
        is("school(0, 0, 4, 3210)", x.school(0, 0, 4, 3210), 8 + 7 + 6 + 7);
        is("school(0, 2, 4, 3210)", x.school(0, 2, 4, 3210), 8 + 9 + 9 + 9);
        is("school(0, 2, 4, 3333)", x.school(0, 2, 4, 3333), 8);
        is("school(0, 1, 4, 3)", x.school(0, 1, 4, 3), 5 + 5 + 5 + 8);
        is("school(0, 0, 4, 3)", x.school(0, 0, 4, 3), 5 + 4 + 3 + 8);
        is("school(0, 2, 4, 3)", x.school(0, 2, 4, 3), 5 + 0 + 0 + 9);
        is("school(0, 0, 1, 0)", x.school(0, 0, 1, 0), 5);
        is("school(1, 1, 8, 33333333)", x.school(1, 1, 8, 33333333), 40);
        is("school(1, 0, 8, 33333333)", x.school(1, 0, 8, 33333333), 5 + 4 + 3 + 2 + 1);
        is("school(1, 0, 8, 0)", x.school(1, 0, 8, 0), 8 + 7 + 6 + 5 + 4 + 3 + 2 + 1);
        same("school", was);
        x.declare(0, 3);
        x.tellOn(0, 1);
        is("school(0, 1, 4, 3210) DECLARED", x.school(0, 1, 4, 3210), 26);
        is("school(1, 1, 1, 3) HEARD", x.school(1, 1, 1, 3), 5);
    }

    private void schoolRefusals() {
        make(LINE);
        is("school(3, ..)", x.school(3, 9, 9, 9), UNKNOWN);
        is("school(-1, ..)", x.school(-1, 0, 1, 0), UNKNOWN);
        is("school -1", x.school(0, -1, 1, 0), BAD);
        is("school 3", x.school(0, 3, 1, 0), BAD);
        is("n 0", x.school(0, 0, 0, 0), BAD);
        is("n 9", x.school(0, 0, 9, 0), BAD);
        is("n least", x.school(0, 0, Integer.MIN_VALUE, 0), BAD);
        is("row -1", x.school(0, 0, 4, -1), BAD);
        is("row of 5 figures", x.school(0, 0, 4, 10000), BAD);
        is("row with 4", x.school(0, 0, 4, 1400), BAD);
        is("row that ends with 4", x.school(0, 0, 4, 1114), BAD);
        is("row that begins with 9", x.school(0, 0, 4, 9000), BAD);
        is("row of 9 figures", x.school(0, 0, 8, 100000000), BAD);
        is("row of 8 figures", x.school(0, 1, 8, 30000000), 8 + 35);
        is("row least", x.school(0, 0, 8, Integer.MIN_VALUE), BAD);
        is("row most", x.school(0, 0, 8, Integer.MAX_VALUE), BAD);
    }

    private void bracedIs(int count, int least, int greatest) {
        is("braced(0)", x.braced(0), count);
        is("braced(1)", x.braced(1), least);
        is("braced(2)", x.braced(2), greatest);
    }

    private void nerves() {
        make(LINE);
        bracedIs(2, 4, 7);
        is("braced(3)", x.braced(3), BAD);
        is("braced(-1)", x.braced(-1), BAD);
        make("T0001234");
        bracedIs(1, 0, 0);
        make("T0001234P123400P123401");
        bracedIs(1, 1, 1);
        make("T0001234P123401P123401R01");
        bracedIs(2, 0, 3);
        make("T0001234P123401P123401P123401P123401R01R23");
        bracedIs(4, 0, 15);
        make("T0001234P123402P123402P123402P123405P123405R01R12R02");
        bracedIs(2, 0, 7);
        make("T0001234P123400P123401P123401P123401P123401R01R12R23R34");
        bracedIs(1, 31, 31);
    }

    // ---- promises 25 and 26

    private void news() {
        make(LINE);
        String was = all();
        is("fair(0, 1, 1), 154 by 3", x.fair(0, 1, 1), 52);
        is("fair(0, 3, 9), 234 by 5", x.fair(0, 3, 9), 47);
        is("fair(2, 3, 1), 120 by 5", x.fair(2, 3, 1), 24);
        is("fair(0, 0, 5)", x.fair(0, 0, 5), NONE);
        is("fair(0, 0, 0)", x.fair(0, 0, 0), BAD);
        is("fair(0, 1, 10)", x.fair(0, 1, 10), BAD);
        is("fair(0, 4, 1)", x.fair(0, 4, 1), BAD);
        is("fair(0, -1, 1)", x.fair(0, -1, 1), BAD);
        is("fair(3, 4, 0)", x.fair(3, 4, 0), UNKNOWN);
        is("fair(-1, 0, 1)", x.fair(-1, 0, 1), UNKNOWN);
        is("courier(0)", x.courier(0), 12);
        is("courier(1), 11.6", x.courier(1), 11);
        is("courier(2)", x.courier(2), 11);
        is("courier(3)", x.courier(3), UNKNOWN);
        is("courier(-1)", x.courier(-1), UNKNOWN);
        same("fair, courier", was);
        x.declare(0, 3);
        is("courier(0), DECLARED", x.courier(0), LATE);
        is("fair(0, 3, 1), DECLARED: 100 by 5", x.fair(0, 3, 1), 20);
        x.tellOn(0, 1);
        is("courier(1), HEARD: 8.6", x.courier(1), 8);
        is("fair(1, 3, 1), HEARD: 96 by 5", x.fair(1, 3, 1), 20);
    }

    // ---- promises 27 and 28

    private void weeks() {
        x = new SurpriseTax();
        is("seed(5)", x.seed(5), 0);
        is("seed(least)", x.seed(Long.MIN_VALUE), 5);
        is("seed(most)", x.seed(Long.MAX_VALUE), Long.MIN_VALUE);
        is("seed(0)", x.seed(0), Long.MAX_VALUE);
        is("week(3)", x.week(3), 1000000);
        is("seed(0)", x.seed(0), -7280499659394350823L);
        // by what is left, 7 4 7, come KINDS 3 2 3 and cost 6 8 6
        make("T1001234P123490");
        String was = all();
        is("week(1)", x.week(1), 1000084);
        is("seed(0)", x.seed(0), 1442695040888963407L);
        is("week(3)", x.week(3), 1000070);
        same("week", was);
        is("week(0)", x.week(0), BAD);
        is("week(31)", x.week(31), BAD);
        is("week(-1)", x.week(-1), BAD);
        is("seed(0)", x.seed(0), -7280499659394350823L);
        x.declare(0, 3);
        is("week(3), DECLARED", x.week(3), 1000076);
        is("person(0, 6)", x.person(0, 6), 3);
        weekOfHighSeed();
        weekOfNoOdds();
    }

    /** By 8 3 7 2 4 (of THE SEED -1): upper bits are looked at without a sign. */
    private void weekOfHighSeed() {
        make("T1001234P123490P123490");
        x.seed(-1);
        is("week(1)", x.week(1), 1000180 - 2 * 6);
        is("seed(-1)", x.seed(-1), -4921441182957829598L);
        // 3 2 3 1 2: 6, then 8 by 1 2 2 5, 6 by 1 2 3 4, 8 by 1 2 2 5, 8 by 1 3 2 4
        is("week(5)", x.week(5), 1000180 - 2 * (6 + 8 + 6 + 8 + 8));
        is("seed(0)", x.seed(0), -520127273856402954L);
    }

    /** By 4 3 6 0 (of THE SEED 1): KINDS 2 2 3 2, for those ahead have no ODDS. */
    private void weekOfNoOdds() {
        make(HALVES);
        x.seed(1);
        is("week(4)", x.week(4), 1000030 - 5 - 4 - 7 - 4);
        write("T1001234");
        is("realm() of nobody", x.realm(), 0);
        is("week(2)", x.week(2), 1000000);
        make("T9000019P550000");
        x.seed(0);
        is("week(30), in DEBT", x.week(30) < 1000000 ? 1 : 0, 1);
    }

    // ---- promises 29 and 30

    private void slots() {
        make(LINE);
        is("keep(-1)", x.keep(-1), UNKNOWN);
        is("keep(2)", x.keep(2), UNKNOWN);
        is("again(-1)", x.again(-1), UNKNOWN);
        is("again(2)", x.again(2), UNKNOWN);
        is("again(0)", x.again(0), LATE);
        x.event(3);
        x.declare(0, 1);
        x.tellOn(0, 1);
        String kept = all();
        is("keep(0)", x.keep(0), 1);
        same("keep", kept);
        is("undo() behind keep", x.undo(), 2);
        x.event(0);
        x.event(0);
        is("keep(1)", x.keep(1), 3);
        x.roll(0, 5);
        x.seed(9);
        is("again(0)", x.again(0), 1);
        is("about(8)", x.about(8), 0);
        is("about(9)", x.about(9), 1);
        is("undo()", x.undo(), LATE);
        is("seed(0)", x.seed(0), 9);
        x.unroll();
        due.holds("all is as it was kept", all().equals(kept.replaceFirst("^((\\S+ ){8})3 ", "$10 ")));
        x.event(2);
        is("again(0) a second time", x.again(0), 1);
        is("person(0, 6)", x.person(0, 6), 1);
        is("person(1, 7)", x.person(1, 7), 1);
        is("again(1)", x.again(1), 3);
        is("person(0, 6)", x.person(0, 6), NONE);
        is("keep(0) over what was kept", x.keep(0), 3);
        x.event(1);
        is("again(0)", x.again(0), 3);
    }
}
