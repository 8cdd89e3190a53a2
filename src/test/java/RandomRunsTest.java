import java.util.ArrayList;
import java.util.List;
import java.util.Random;

/** Long mixed runs, the same ones each time, answered by SurpriseTax as by the Model. */
public final class RandomRunsTest {
    private static final int RUNS = 2500;
    /** So that the last calls, too, are among the 512 of which the document tells. */
    private static final int CALLS = 300;
    private static final int[] WILD = {Integer.MIN_VALUE, Integer.MAX_VALUE, -100, -9, -2, -1, 4, 5, 6, 9, 10, 11, 31, 32,
        64, 99, 100, 255, 256, 1000, 12345678, 100000000, 1073741824};

    private final Due due = new Due("RandomRunsTest");
    private Random random;
    private SurpriseTax x;
    private Model m;
    private String name;
    private int calls;

    public static void main(String[] args) {
        RandomRunsTest test = new RandomRunsTest();
        for (int run = 0; run < RUNS && test.due.isClean(); run++) test.run(run);
        test.due.end();
    }

    private void run(int run) {
        random = new Random(run);
        x = new SurpriseTax();
        m = new Model();
        name = "run " + run;
        calls = 0;
        if (random.nextInt(8) != 0) makeRealm();
        while (calls < CALLS && due.isClean()) {
            if (random.nextInt(80) == 0) makeRealm();
            if (random.nextInt(60) == 0) compareAll();
            callOne();
        }
        compareAll();
    }

    private void compareAll() {
        for (int what = -1; what <= 11; what++) is("about(" + what + ")", x.about(what), m.about(what));
        for (int person = 0; person <= 5; person++) {
            for (int what = 0; what <= 8; what++) {
                is("person(" + person + ", " + what + ")", x.person(person, what), m.person(person, what));
            }
        }
    }

    private void is(String call, long got, long want) {
        calls++;
        due.is(name + ": " + call, got, want);
    }

    private void makeRealm() {
        is("wipe()", x.wipe(), m.wipe());
        for (char c : spoilt(realmText()).toCharArray()) is("write(" + (int) c + ")", x.write(c), m.write(c));
        is("fault()", x.fault(), m.fault());
        is("realm()", x.realm(), m.realm());
    }

    private String realmText() {
        StringBuilder told = new StringBuilder("T");
        told.append(figure(9)).append(figure(9)).append(figure(9)).append(group());
        int people = random.nextInt(6);
        List<String> pairs = new ArrayList<>();
        for (int i = 0; i < people; i++) {
            told.append('P').append(group()).append(figure(9)).append(figure(5));
            if (random.nextInt(3) == 0 && i > 0) addRoad(told, pairs, i + 1);
        }
        int more = people < 2 ? 0 : random.nextInt(7);
        for (int i = 0; i < more; i++) addRoad(told, pairs, people);
        return told.toString();
    }

    private void addRoad(StringBuilder told, List<String> pairs, int people) {
        int from = random.nextInt(people), to = random.nextInt(people);
        String pair = "" + Math.min(from, to) + Math.max(from, to);
        if (from == to || pairs.contains(pair) || pairs.size() == 6) return;
        pairs.add(pair);
        told.append('R').append(from).append(to);
    }

    private char figure(int most) {
        return (char) ('0' + random.nextInt(most + 1));
    }

    /** Four figures, 10 together; few kinds of odds and habits as often as many. */
    private String group() {
        int[] tenths = new int[4];
        int kinds = 2 + random.nextInt(3);
        for (int left = 10; left > 0; left--) {
            int kind = (random.nextInt(kinds) + (kinds < 4 ? random.nextInt(2) : 0)) % 4;
            while (tenths[kind] == 9) kind = (kind + 1) % 4;
            tenths[kind]++;
        }
        return "" + tenths[0] + tenths[1] + tenths[2] + tenths[3];
    }

    private String spoilt(String told) {
        if (random.nextInt(4) != 0) return told;
        int at = random.nextInt(told.length());
        String letters = "0123456789PRTp :/x";
        char c = random.nextInt(12) == 0 ? (char) random.nextInt(256) : letters.charAt(random.nextInt(letters.length()));
        switch (random.nextInt(4)) {
            case 0: return told.substring(0, at);
            case 1: return told + c;
            case 2: return told.substring(0, at) + c + told.substring(at);
            default: return told.substring(0, at) + c + told.substring(at + 1);
        }
    }

    /** Mostly one of the first few numbers, at times any. */
    private int number(int few) {
        return random.nextInt(12) == 0 ? WILD[random.nextInt(WILD.length)] : random.nextInt(few);
    }

    private void callOne() {
        int which = random.nextInt(45);
        if (which < 20) act(which);
        else if (which < 33) ask(which);
        else askMore(which);
    }

    private void act(int which) {
        int p = number(5), k = number(4), o = number(5), t = number(100), s = number(2);
        long v = random.nextLong();
        switch (which) {
            case 0: case 1: case 2: case 3:
                is("declare(" + p + ", " + k + ")", x.declare(p, k), m.declare(p, k));
                break;
            case 4: case 5: case 6: case 7:
                is("tellOn(" + p + ", " + o + ")", x.tellOn(p, o), m.tellOn(p, o));
                break;
            case 8: case 9: case 10: case 11:
                is("event(" + k + ")", x.event(k), m.event(k));
                break;
            case 12: case 13:
                is("undo()", x.undo(), m.undo());
                break;
            case 14:
                for (int i = 0; i < 6; i++) is("event(" + k + ")", x.event(k), m.event(k));
                break;
            case 15:
                is("keep(" + s + ")", x.keep(s), m.keep(s));
                break;
            case 16:
                is("again(" + s + ")", x.again(s), m.again(s));
                break;
            case 17:
                is("write(" + t + ")", x.write(t), m.write(t));
                break;
            case 18:
                is("seed(" + v + ")", x.seed(v), m.seed(v));
                break;
            default:
                if (random.nextInt(4) == 0) is("realm()", x.realm(), m.realm());
                else is("fault()", x.fault(), m.fault());
        }
    }

    private void ask(int which) {
        int p = number(5), k = number(4), n = number(4);
        boolean upper = random.nextBoolean();
        switch (which) {
            case 20: case 21:
                is("tax(" + p + ", " + k + ")", x.tax(p, k), m.tax(p, k));
                break;
            case 22: case 23:
                is("mean(" + p + ", " + upper + ")", x.mean(p, upper), m.mean(p, upper));
                break;
            case 24: case 25:
                is("counsel(" + p + ")", x.counsel(p), m.counsel(p));
                break;
            case 26:
                is("least(" + p + ", " + n + ", " + upper + ")", x.least(p, n, upper), m.least(p, n, upper));
                break;
            case 27:
                is("joke(" + p + ", " + (n + 1) + ")", x.joke(p, n + 1), m.joke(p, n + 1));
                break;
            case 28:
                is("jokeAt(" + p + ", " + (n + 1) + ", " + k + ")", x.jokeAt(p, n + 1, k), m.jokeAt(p, n + 1, k));
                break;
            case 29: case 30:
                is("broke(" + k + ")", x.broke(k), m.broke(k));
                break;
            default:
                is("reform(" + k + ")", x.reform(k), m.reform(k));
        }
    }

    private void askMore(int which) {
        int p = number(5), k = number(4), what = number(3), s = number(10), n = number(9), days = number(31);
        int row = random.nextInt(6) == 0 ? number(1000) : rowOf(n);
        switch (which) {
            case 33: case 34: case 35:
                int t = random.nextBoolean() ? number(100) : Math.max(0, x.tax(p, k));
                is("roll(" + p + ", " + t + ")", x.roll(p, t), m.roll(p, t));
                break;
            case 36:
                is("unroll()", x.unroll(), m.unroll());
                break;
            case 37: case 38: case 39:
                is("tales(" + what + ")", x.tales(what), m.tales(what));
                break;
            case 40:
                is("school(" + p + ", " + what + ", " + n + ", " + row + ")", x.school(p, what, n, row), m.school(p, what, n, row));
                break;
            case 41:
                is("braced(" + what + ")", x.braced(what), m.braced(what));
                break;
            case 42:
                is("fair(" + p + ", " + k + ", " + s + ")", x.fair(p, k, s), m.fair(p, k, s));
                break;
            case 43:
                is("courier(" + p + ")", x.courier(p), m.courier(p));
                break;
            default:
                is("week(" + days + ")", x.week(days), m.week(days));
        }
    }

    private int rowOf(int n) {
        int row = 0;
        for (int i = 0; i < n && i < 9; i++) row = row * 10 + random.nextInt(4);
        return row;
    }
}
