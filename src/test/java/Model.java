import java.math.BigInteger;
import java.util.ArrayDeque;
import java.util.ArrayList;
import java.util.Arrays;
import java.util.Deque;
import java.util.HashSet;
import java.util.List;
import java.util.Set;

/**
 * The document once more, in other words: people are objects, sets are sets, states are copied
 * whole, means are exact fractions and LEAST is sought by trying all. RandomRunsTest compares
 * SurpriseTax with it. It shares no code with the program.
 */
final class Model {
    static final int UNKNOWN = -1, BAD = -2, LATE = -3, FULL = -4, NONE = -9;
    private static final List<String> GROUPS = groups();

    record Road(int from, int to) {
        boolean joins(int a, int b) {
            return from == a && to == b || from == b && to == a;
        }
    }

    record Roll(int person, int t) { }

    static final class One {
        int[] expects;
        int coins;
        int nerve;
        int declared = NONE;
        int heard = NONE;

        One copy() {
            One other = new One();
            other.expects = expects.clone();
            other.coins = coins;
            other.nerve = nerve;
            other.declared = declared;
            other.heard = heard;
            return other;
        }
    }

    static final class World {
        List<One> people = new ArrayList<>();
        int day = 0;

        World copy() {
            World other = new World();
            for (One one : people) other.people.add(one.copy());
            other.day = day;
            return other;
        }
    }

    /** An exact fraction; below is always above 0. */
    record Part(BigInteger above, BigInteger below) {
        static Part of(long above, long below) {
            return new Part(BigInteger.valueOf(above), BigInteger.valueOf(below)).reduced();
        }

        Part reduced() {
            BigInteger common = above.gcd(below);
            return new Part(above.divide(common), below.divide(common));
        }

        Part plus(Part o) {
            return new Part(above.multiply(o.below).add(o.above.multiply(below)), below.multiply(o.below)).reduced();
        }

        Part times(Part o) {
            return new Part(above.multiply(o.above), below.multiply(o.below)).reduced();
        }

        boolean isLess(Part o) {
            return above.multiply(o.below).compareTo(o.above.multiply(below)) < 0;
        }

        int floor() {
            return above.divide(below).intValue();
        }

        int told(boolean upper) {
            return (upper ? above : below).intValue();
        }
    }

    private final StringBuilder text = new StringBuilder();
    private int rate = 0;
    private int free = 0;
    private int price = 0;
    private int[] odds = {1, 2, 3, 4};
    private List<Road> roads = new ArrayList<>();
    private World world = new World();
    private final Deque<World> acts = new ArrayDeque<>();
    private final World[] slots = new World[2];
    private final List<Roll> rolls = new ArrayList<>();
    private long seed = 0;

    // ---- the realm

    int write(int letter) {
        if (letter < 0 || letter > 255) return BAD;
        if (text.length() == 64) return FULL;
        text.append((char) letter);
        return text.length();
    }

    int wipe() {
        int was = text.length();
        text.setLength(0);
        return was;
    }

    /** The shortest head of THE TEXT that nothing can complete, less one. */
    int fault() {
        String all = text.toString();
        for (int end = 1; end <= all.length(); end++) {
            if (!canGrow(all.substring(0, end))) return end - 1;
        }
        return isAtEnd(all) ? NONE : all.length();
    }

    int realm() {
        if (fault() != NONE) return LATE;
        List<String> parts = parts(text.toString());
        String law = parts.get(0);
        rate = law.charAt(1) - '0';
        free = law.charAt(2) - '0';
        price = law.charAt(3) - '0';
        odds = figures(law.substring(4, 8));
        roads = roadsOf(parts);
        world = new World();
        for (String part : parts) {
            if (part.charAt(0) != 'P') continue;
            One one = new One();
            one.expects = figures(part.substring(1, 5));
            one.coins = 10 * (part.charAt(5) - '0');
            one.nerve = part.charAt(6) - '0';
            world.people.add(one);
        }
        acts.clear();
        slots[0] = null;
        slots[1] = null;
        return world.people.size();
    }

    private static List<String> groups() {
        List<String> found = new ArrayList<>();
        for (int i = 0; i < 10000; i++) {
            String group = String.format("%04d", i);
            if (group.chars().map(c -> c - '0').sum() == 10) found.add(group);
        }
        return found;
    }

    private static int[] figures(String told) {
        return told.chars().map(c -> c - '0').toArray();
    }

    /** The text cut ahead of each letter T, P, R. */
    private static List<String> parts(String told) {
        List<String> parts = new ArrayList<>();
        for (char c : told.toCharArray()) {
            boolean isFirst = parts.isEmpty() || "TPR".indexOf(c) >= 0;
            if (isFirst) parts.add("");
            parts.set(parts.size() - 1, parts.get(parts.size() - 1) + c);
        }
        return parts;
    }

    private static List<Road> roadsOf(List<String> parts) {
        List<Road> found = new ArrayList<>();
        for (String part : parts) {
            if (part.charAt(0) == 'R' && part.length() == 3) found.add(new Road(part.charAt(1) - '0', part.charAt(2) - '0'));
        }
        return found;
    }

    private static boolean isWhole(String part) {
        return part.length() == (part.charAt(0) == 'T' ? 8 : part.charAt(0) == 'P' ? 7 : 3);
    }

    private static boolean isAtEnd(String told) {
        if (told.isEmpty()) return false;
        List<String> parts = parts(told);
        return isWhole(parts.get(parts.size() - 1));
    }

    private static boolean canGrow(String told) {
        List<String> parts = parts(told);
        for (int i = 0; i < parts.size(); i++) {
            boolean isLast = i == parts.size() - 1;
            if (!isLast && !isWhole(parts.get(i))) return false;
            if (!partCanGrow(parts.subList(0, i), parts.get(i))) return false;
        }
        return true;
    }

    private static boolean partCanGrow(List<String> ahead, String part) {
        long people = ahead.stream().filter(p -> p.charAt(0) == 'P').count();
        char letter = part.charAt(0);
        if (ahead.isEmpty()) return letter == 'T' && GROUPS.stream().anyMatch(g -> fits(part, "T???" + g));
        if (letter == 'P') return people < 5 && GROUPS.stream().anyMatch(g -> fits(part, "P" + g + "?!"));
        if (letter != 'R') return false;
        List<Road> told = roadsOf(ahead);
        if (told.size() == 6) return false;
        for (int i = 0; i < people; i++) {
            for (int j = 0; j < people; j++) {
                int from = i, to = j;
                boolean isNew = i != j && told.stream().noneMatch(r -> r.joins(from, to));
                if (isNew && fits(part, "R" + i + j)) return true;
            }
        }
        return false;
    }

    /** Whether the head is one of the pattern: ? any figure, ! 0 to 5, others themselves. */
    private static boolean fits(String head, String pattern) {
        if (head.length() > pattern.length()) return false;
        for (int i = 0; i < head.length(); i++) {
            char c = head.charAt(i), p = pattern.charAt(i);
            boolean ok = p == '?' ? c >= '0' && c <= '9' : p == '!' ? c >= '0' && c <= '5' : c == p;
            if (!ok) return false;
        }
        return true;
    }

    int about(int what) {
        int debtors = 0;
        for (int i = 0; i < world.people.size(); i++) {
            if (world.people.get(i).coins < 0) debtors += 1 << i;
        }
        int[] all = {world.people.size(), rate, free, price, odds[0] * 1000 + odds[1] * 100 + odds[2] * 10 + odds[3],
            world.day, debtors, roads.size(), acts.size(), rolls.size(), text.length()};
        return what < 0 || what >= all.length ? BAD : all[what];
    }

    int person(int person, int what) {
        if (isNobody(person)) return UNKNOWN;
        One one = world.people.get(person);
        if (what < 0 || what > 8) return BAD;
        if (what < 4) return one.expects[what];
        if (what == 4) return one.coins + 100000;
        if (what == 5) return one.nerve;
        if (what == 6) return one.declared;
        if (what == 7) return one.heard;
        int bits = 0;
        for (int other : neighbours(person)) bits += 1 << other;
        return bits;
    }

    private Set<Integer> neighbours(int person) {
        Set<Integer> found = new HashSet<>();
        for (Road road : roads) {
            if (road.from == person) found.add(road.to);
            if (road.to == person) found.add(road.from);
        }
        return found;
    }

    private boolean isNobody(int person) {
        return person < 0 || person >= world.people.size();
    }

    private static boolean isNoKind(int kind) {
        return kind < 0 || kind > 3;
    }

    // ---- acts

    private void act() {
        acts.addLast(world.copy());
        if (acts.size() > 12) acts.removeFirst();
    }

    int declare(int person, int kind) {
        if (isNobody(person)) return UNKNOWN;
        if (isNoKind(kind)) return BAD;
        if (world.people.get(person).declared != NONE) return LATE;
        act();
        One one = world.people.get(person);
        one.coins -= price;
        one.declared = kind;
        return one.coins + 100000;
    }

    int tellOn(int person, int other) {
        if (isNobody(person) || isNobody(other)) return UNKNOWN;
        One to = world.people.get(other);
        int news = world.people.get(person).declared;
        if (news == NONE || !neighbours(person).contains(other)) return LATE;
        if (to.declared != NONE || to.heard != NONE) return LATE;
        act();
        to.heard = news;
        return news;
    }

    int event(int kind) {
        if (isNoKind(kind)) return BAD;
        act();
        return happen(world, kind);
    }

    int undo() {
        if (acts.isEmpty()) return LATE;
        world = acts.removeLast();
        return acts.size();
    }

    private int happen(World w, int kind) {
        int sum = 0;
        for (One one : w.people) {
            int due = rate * surprise(one, kind, free);
            one.coins -= due;
            sum += due;
            learn(one.expects, kind);
            one.declared = NONE;
            one.heard = NONE;
        }
        w.day++;
        return sum;
    }

    private static void learn(int[] expects, int kind) {
        if (expects[kind] == 10) return;
        int loser = -1;
        for (int tenths = 10; tenths > 0 && loser < 0; tenths--) {
            for (int other = 0; other < 4 && loser < 0; other++) {
                if (other != kind && expects[other] == tenths) loser = other;
            }
        }
        expects[loser]--;
        expects[kind]++;
    }

    private static int surprise(One one, int kind, int free) {
        if (one.declared != NONE) return one.declared == kind ? 0 : 10 - free;
        int plain = 10 - one.expects[kind] - free;
        if (plain < 0) plain = 0;
        return one.heard == kind ? (plain - plain % 2) / 2 : plain;
    }

    // ---- what is paid

    int tax(int person, int kind) {
        if (isNobody(person)) return UNKNOWN;
        if (isNoKind(kind)) return BAD;
        return rate * surprise(world.people.get(person), kind, free);
    }

    private Part meanOf(One one) {
        Part sum = Part.of(0, 1);
        for (int k = 0; k < 4; k++) sum = sum.plus(Part.of((long) odds[k] * rate * surprise(one, k, free), 10));
        return sum;
    }

    private Part meanDeclaring(One one, int kind) {
        One other = one.copy();
        other.declared = kind;
        return meanOf(other).plus(Part.of(price, 1));
    }

    int mean(int person, boolean upper) {
        return isNobody(person) ? UNKNOWN : meanOf(world.people.get(person)).told(upper);
    }

    int counsel(int person) {
        if (isNobody(person)) return UNKNOWN;
        One one = world.people.get(person);
        if (one.declared != NONE) return LATE;
        int best = 0;
        for (int k = 1; k < 4; k++) {
            if (meanDeclaring(one, k).isLess(meanDeclaring(one, best))) best = k;
        }
        return meanDeclaring(one, best).isLess(meanOf(one)) ? best : NONE;
    }

    int least(int person, int n, boolean upper) {
        if (isNobody(person)) return UNKNOWN;
        if (n < 1 || n > 3) return BAD;
        return leastFrom(world.people.get(person), n).told(upper);
    }

    /** Tries each choice with all that can follow it. */
    private Part leastFrom(One one, int days) {
        if (days == 0) return Part.of(0, 1);
        Part best = null;
        for (int choice = -1; choice < 4; choice++) {
            if (choice >= 0 && one.declared != NONE) continue;
            One chosen = one.copy();
            Part cost = Part.of(0, 1);
            if (choice >= 0) {
                chosen.declared = choice;
                cost = Part.of(price, 1);
            }
            for (int k = 0; k < 4; k++) {
                One next = chosen.copy();
                learn(next.expects, k);
                next.declared = NONE;
                next.heard = NONE;
                Part paid = Part.of((long) rate * surprise(chosen, k, free), 1).plus(leastFrom(next, days - 1));
                cost = cost.plus(paid.times(Part.of(odds[k], 10)));
            }
            if (best == null || cost.isLess(best)) best = cost;
        }
        return best;
    }

    private int[] jokeRow(int person, int n) {
        List<int[]> rows = new ArrayList<>();
        rows.add(new int[0]);
        for (int i = 0; i < n; i++) {
            List<int[]> longer = new ArrayList<>();
            for (int[] row : rows) {
                for (int k = 0; k < 4; k++) {
                    int[] more = Arrays.copyOf(row, row.length + 1);
                    more[row.length] = k;
                    longer.add(more);
                }
            }
            rows = longer;
        }
        int[] best = null;
        for (int[] row : rows) {
            if (lossBy(row, person) == 0 && (best == null || lossOfOthers(row, person) > lossOfOthers(best, person))) best = row;
        }
        return best;
    }

    private int lossBy(int[] row, int person) {
        World w = world.copy();
        for (int k : row) happen(w, k);
        return world.people.get(person).coins - w.people.get(person).coins;
    }

    private int lossOfOthers(int[] row, int person) {
        int sum = 0;
        for (int i = 0; i < world.people.size(); i++) sum += i == person ? 0 : lossBy(row, i);
        return sum;
    }

    int joke(int person, int n) {
        if (isNobody(person)) return UNKNOWN;
        if (n < 1 || n > 4) return BAD;
        int[] row = jokeRow(person, n);
        return row == null ? NONE : lossOfOthers(row, person);
    }

    int jokeAt(int person, int n, int i) {
        if (isNobody(person)) return UNKNOWN;
        if (n < 1 || n > 4) return BAD;
        int[] row = jokeRow(person, n);
        return row == null || i < 0 || i >= n ? NONE : row[i];
    }

    private static boolean isAnyInDebt(World w) {
        return w.people.stream().anyMatch(one -> one.coins < 0);
    }

    int broke(int kind) {
        if (isNoKind(kind)) return BAD;
        World w = world.copy();
        int events = 0;
        while (!isAnyInDebt(w) && events < 31) {
            happen(w, kind);
            events++;
        }
        return events > 30 ? NONE : events;
    }

    int reform(int kind) {
        if (isNoKind(kind)) return BAD;
        for (int change = 0; change <= 18; change++) {
            for (int law = 0; law < 100; law++) {
                int r = law / 10, f = law % 10;
                if (Math.abs(r - rate) + Math.abs(f - free) == change && !hasDebtBy(kind, r, f)) return law;
            }
        }
        return NONE;
    }

    private boolean hasDebtBy(int kind, int r, int f) {
        return world.people.stream().anyMatch(one -> one.coins - r * surprise(one, kind, f) < 0);
    }

    // ---- rolls, schools, nerves

    int roll(int person, int t) {
        if (isNobody(person)) return UNKNOWN;
        if (t < 0 || t > 99) return BAD;
        if (rolls.size() == 6) return FULL;
        rolls.add(new Roll(person, t));
        return rolls.size();
    }

    int unroll() {
        int was = rolls.size();
        rolls.clear();
        return was;
    }

    int tales(int what) {
        if (what < 0 || what > 2) return BAD;
        int count = 0, kinds = 0, sure = 31;
        for (int kind = 0; kind < 4; kind++) {
            for (int set = 0; set < 1 << world.people.size(); set++) {
                World told = told(kind, set);
                if (told == null || !fitsRolls(told, kind)) continue;
                count++;
                kinds |= 1 << kind;
                sure &= set;
            }
        }
        return what == 0 ? count : what == 1 ? kinds : count == 0 ? NONE : sure;
    }

    /** The world in which these had DECLARED; null if one of them cannot have. */
    private World told(int kind, int set) {
        World w = world.copy();
        for (int i = 0; i < w.people.size(); i++) {
            if ((set >> i) % 2 == 0) continue;
            One one = w.people.get(i);
            if (one.declared != NONE || one.heard != NONE) return null;
            one.declared = kind;
        }
        return w;
    }

    private boolean fitsRolls(World w, int kind) {
        return rolls.stream().filter(r -> r.person < w.people.size())
            .allMatch(r -> rate * surprise(w.people.get(r.person), kind, free) == r.t);
    }

    int school(int person, int school, int n, int row) {
        if (isNobody(person)) return UNKNOWN;
        if (school < 0 || school > 2 || n < 1 || n > 8 || row < 0) return BAD;
        String told = String.valueOf(row);
        if (told.equals("0")) told = "";
        if (told.length() > n || !told.matches("[0-3]*")) return BAD;
        told = "0".repeat(n - told.length()) + told;
        int[] expects = world.people.get(person).expects.clone();
        int sum = 0;
        for (int kind : figures(told)) {
            sum += Math.max(0, 10 - expects[kind] - free);
            if (school == 0) learn(expects, kind);
            if (school == 2) {
                expects = new int[4];
                expects[kind] = 10;
            }
        }
        return sum;
    }

    int braced(int what) {
        if (what < 0 || what > 2) return BAD;
        List<Integer> found = new ArrayList<>();
        for (int bits = 0; bits < 1 << world.people.size(); bits++) {
            Set<Integer> set = new HashSet<>();
            for (int i = 0; i < 5; i++) {
                if ((bits >> i) % 2 == 1) set.add(i);
            }
            boolean ok = true;
            for (int i = 0; i < world.people.size(); i++) {
                Set<Integer> near = neighbours(i);
                near.retainAll(set);
                if (set.contains(i) != (near.size() >= world.people.get(i).nerve)) ok = false;
            }
            if (ok) found.add(bits);
        }
        if (what == 0) return found.size();
        if (found.isEmpty()) return NONE;
        return found.get(what == 1 ? 0 : found.size() - 1);
    }

    int fair(int person, int kind, int s) {
        if (isNobody(person)) return UNKNOWN;
        if (isNoKind(kind) || s < 1 || s > 9) return BAD;
        if (odds[kind] == 0) return NONE;
        Part wanted = meanOf(world.people.get(person)).plus(Part.of(s, 1));
        int coins = 0;
        while (Part.of((long) odds[kind] * coins, 10).isLess(wanted)) coins++;
        return coins;
    }

    int courier(int person) {
        int kind = counsel(person);
        if (kind == UNKNOWN || kind == LATE) return kind;
        One one = world.people.get(person);
        return (kind == NONE ? meanOf(one) : meanDeclaring(one, kind)).floor();
    }

    long seed(long v) {
        long was = seed;
        seed = v;
        return was;
    }

    int week(int m) {
        if (m < 1 || m > 30) return BAD;
        World w = world.copy();
        BigInteger wrap = BigInteger.ONE.shiftLeft(64);
        for (int day = 0; day < m; day++) {
            BigInteger x = BigInteger.valueOf(seed).multiply(new BigInteger("6364136223846793005"))
                .add(new BigInteger("1442695040888963407")).mod(wrap);
            seed = x.longValue();
            int left = x.shiftRight(33).mod(BigInteger.TEN).intValue();
            int kind = 0;
            for (int ahead = odds[0]; ahead <= left; ahead += odds[kind]) kind++;
            happen(w, kind);
        }
        return 1000000 + w.people.stream().mapToInt(one -> one.coins).sum();
    }

    // ---- slots

    int keep(int slot) {
        if (slot != 0 && slot != 1) return UNKNOWN;
        slots[slot] = world.copy();
        return world.day;
    }

    int again(int slot) {
        if (slot != 0 && slot != 1) return UNKNOWN;
        if (slots[slot] == null) return LATE;
        world = slots[slot].copy();
        acts.clear();
        return world.day;
    }
}
