/** People who are taxed on their surprise. What each call answers is told in DOC.md. */
public final class SurpriseTax {
    public static final int UNKNOWN = -1, BAD = -2, LATE = -3, FULL = -4, NONE = -9;

    private static final int KINDS = 4, TENTHS = 10, MOST_PEOPLE = 5, MOST_ROADS = 6;
    private static final int MOST_BYTES = 64, MOST_ACTS = 12, MOST_ROLLS = 6, SLOTS = 2;
    /** Debts are told without a sign: these are put to what a purse, or all purses, hold. */
    private static final int ABOVE_PURSE = 100000, ABOVE_PURSES = 1000000;

    private final Text text = new Text();
    private final Realm realm = new Realm();
    private final State now = new State();
    /** THE TEXT is read into these when only its FAULT is asked for. */
    private final Realm draftRealm = new Realm();
    private final State draftState = new State();
    private final Acts acts = new Acts();
    private final Slots slots = new Slots();
    private final Rolls rolls = new Rolls();
    private final Advice advice = new Advice();
    private final Foresight foresight = new Foresight();
    private long seed = 0;

    public SurpriseTax() {
        for (int kind = 0; kind < KINDS; kind++) realm.odds[kind] = kind + 1;
    }

    // ---- the realm

    public int write(int letter) {
        if (letter < 0 || letter > 255) return BAD;
        if (text.length() >= MOST_BYTES) return FULL;
        text.add(letter);
        return text.length();
    }

    public int wipe() {
        int was = text.length();
        text.clear();
        return was;
    }

    public int fault() {
        return text.read(draftRealm, draftState);
    }

    public int realm() {
        if (text.read(draftRealm, draftState) != NONE) return LATE;
        text.read(realm, now);
        acts.clear();
        slots.clear();
        return realm.people;
    }

    public int about(int what) {
        switch (what) {
            case 0: return realm.people;
            case 1: return realm.rate;
            case 2: return realm.free;
            case 3: return realm.price;
            case 4: return realm.oddsAsFigures();
            case 5: return now.day();
            case 6: return realm.debtors(now);
            case 7: return realm.roadCount;
            case 8: return acts.count();
            case 9: return rolls.count();
            case 10: return text.length();
            default: return BAD;
        }
    }

    public int person(int person, int what) {
        if (!realm.has(person)) return UNKNOWN;
        if (isKind(what)) return now.expected(person, what);
        switch (what) {
            case 4: return now.coins(person) + ABOVE_PURSE;
            case 5: return realm.nerve[person];
            case 6: return now.declared(person);
            case 7: return now.heard(person);
            case 8: return realm.roads[person];
            default: return BAD;
        }
    }

    // ---- acts

    public int declare(int person, int kind) {
        if (!realm.has(person)) return UNKNOWN;
        if (!isKind(kind)) return BAD;
        if (now.declared(person) != NONE) return LATE;
        acts.remember(now);
        now.pay(person, realm.price);
        now.setDeclared(person, kind);
        return now.coins(person) + ABOVE_PURSE;
    }

    public int tellOn(int person, int other) {
        if (!realm.has(person) || !realm.has(other)) return UNKNOWN;
        int kind = now.declared(person);
        if (kind == NONE || !realm.hasRoad(person, other) || !now.isOpen(other)) return LATE;
        acts.remember(now);
        now.setHeard(other, kind);
        return kind;
    }

    public int event(int kind) {
        if (!isKind(kind)) return BAD;
        acts.remember(now);
        return realm.come(now, kind);
    }

    public int undo() {
        if (acts.count() == 0) return LATE;
        acts.takeBack(now);
        return acts.count();
    }

    // ---- what is paid

    public int tax(int person, int kind) {
        if (!realm.has(person)) return UNKNOWN;
        if (!isKind(kind)) return BAD;
        return realm.taxOf(now, person, kind);
    }

    public int mean(int person, boolean upper) {
        if (!realm.has(person)) return UNKNOWN;
        return inLeastTerms(realm.meanTenfold(now, person), TENTHS, upper);
    }

    public int counsel(int person) {
        if (!realm.has(person)) return UNKNOWN;
        if (now.declared(person) != NONE) return LATE;
        return advice.bestToDeclare(realm, now, person);
    }

    public int least(int person, int n, boolean upper) {
        if (!realm.has(person)) return UNKNOWN;
        if (n < 1 || n > 3) return BAD;
        return inLeastTerms(advice.leastTenfold(realm, now, person, n), power(TENTHS, n), upper);
    }

    public int joke(int person, int n) {
        if (!realm.has(person)) return UNKNOWN;
        if (n < 1 || n > 4) return BAD;
        return foresight.seekJoke(realm, now, person, n);
    }

    public int jokeAt(int person, int n, int i) {
        if (!realm.has(person)) return UNKNOWN;
        if (n < 1 || n > 4) return BAD;
        if (i < 0 || i >= n || foresight.seekJoke(realm, now, person, n) == NONE) return NONE;
        return foresight.jokeEvent(n, i);
    }

    public int broke(int kind) {
        if (!isKind(kind)) return BAD;
        return foresight.eventsUntilDebt(realm, now, kind);
    }

    public int reform(int kind) {
        if (!isKind(kind)) return BAD;
        return foresight.nearestLaw(realm, now, kind);
    }

    // ---- rolls, schools, nerves

    public int roll(int person, int t) {
        if (!realm.has(person)) return UNKNOWN;
        if (t < 0 || t > 99) return BAD;
        if (rolls.count() >= MOST_ROLLS) return FULL;
        rolls.add(person, t);
        return rolls.count();
    }

    public int unroll() {
        int was = rolls.count();
        rolls.clear();
        return was;
    }

    public int tales(int what) {
        if (what < 0 || what > 2) return BAD;
        rolls.readTales(realm, now);
        if (what == 0) return rolls.fitting();
        return what == 1 ? rolls.kinds() : rolls.sure();
    }

    public int school(int person, int school, int n, int row) {
        if (!realm.has(person)) return UNKNOWN;
        if (school < 0 || school > 2 || n < 1 || n > 8 || !isRow(row, n)) return BAD;
        return foresight.surprisesIn(realm, now, person, school, n, row);
    }

    public int braced(int what) {
        if (what < 0 || what > 2) return BAD;
        int count = 0, least = NONE, greatest = NONE;
        for (int set = 0; set <= realm.everybody(); set++) {
            if (!realm.isBraced(set)) continue;
            count++;
            if (least == NONE) least = set;
            greatest = set;
        }
        if (what == 0) return count;
        return what == 1 ? least : greatest;
    }

    public int fair(int person, int kind, int s) {
        if (!realm.has(person)) return UNKNOWN;
        if (!isKind(kind) || s < 1 || s > 9) return BAD;
        return advice.fairPrize(realm, now, person, kind, s);
    }

    public int courier(int person) {
        if (!realm.has(person)) return UNKNOWN;
        if (now.declared(person) != NONE) return LATE;
        return advice.worthOfNews(realm, now, person);
    }

    public long seed(long v) {
        long was = seed;
        seed = v;
        return was;
    }

    public int week(int m) {
        if (m < 1 || m > 30) return BAD;
        foresight.begin(now);
        for (int day = 0; day < m; day++) {
            seed = seed * 6364136223846793005L + 1442695040888963407L;
            foresight.play(realm, realm.drawnBy(seed));
        }
        return foresight.coinsOfAll(realm) + ABOVE_PURSES;
    }

    // ---- slots

    public int keep(int slot) {
        if (slot < 0 || slot >= SLOTS) return UNKNOWN;
        slots.put(slot, now);
        return now.day();
    }

    public int again(int slot) {
        if (slot < 0 || slot >= SLOTS) return UNKNOWN;
        if (!slots.isKept(slot)) return LATE;
        slots.giveBack(slot, now);
        acts.clear();
        return now.day();
    }

    // ---- numbers

    private static boolean isKind(int kind) {
        return kind >= 0 && kind < KINDS;
    }

    /** A row is shorter than its n figures where it begins with KIND 0. */
    private static boolean isRow(int row, int n) {
        if (row < 0 || row >= power(TENTHS, n)) return false;
        for (int i = 0; i < n; i++) {
            if (!isKind(figureAt(row, n, i))) return false;
        }
        return true;
    }

    /** The i-th of n figures, from the left. */
    private static int figureAt(int row, int n, int i) {
        int ahead = row;
        for (int behind = n - 1; behind > i; behind--) ahead /= TENTHS;
        return ahead % TENTHS;
    }

    /** The i-th KIND of a row of n that is told by two bits each. */
    private static int kindAt(int row, int n, int i) {
        return row >> 2 * (n - 1 - i) & 3;
    }

    private static int power(int base, int exponent) {
        int result = 1;
        for (int i = 0; i < exponent; i++) result *= base;
        return result;
    }

    private static int inLeastTerms(int above, int below, boolean upper) {
        int common = commonDivisor(above, below);
        if (common == 0) return NONE;
        return upper ? above / common : below / common;
    }

    private static int commonDivisor(int a, int b) {
        int divisor = a, rest = b;
        for (int step = 0; step < 64 && rest != 0; step++) {
            int next = divisor % rest;
            divisor = rest;
            rest = next;
        }
        return divisor;
    }

    /** The bytes that were written, and how they are read as a REALM. */
    private static final class Text {
        private static final int ANY_FIGURE = (1 << 10) - 1, NERVES = (1 << 6) - 1;

        private final int[] bytes = new int[MOST_BYTES];
        private final int[] tenths = new int[KINDS];
        private int length = 0;
        private int at = 0;
        private int fault = NONE;

        int length() {
            return length;
        }

        void add(int letter) {
            if (length >= MOST_BYTES) return;
            bytes[length] = letter;
            length++;
        }

        void clear() {
            length = 0;
        }

        /** Answers the FAULT; only when there is none, realm and state are what THE TEXT tells. */
        int read(Realm realm, State state) {
            realm.sendAllAway();
            state.clear();
            at = 0;
            fault = NONE;
            readLaw(realm);
            for (int part = 0; part < MOST_BYTES && fault == NONE && at < length; part++) {
                readPart(realm, state);
            }
            return fault;
        }

        private void readLaw(Realm realm) {
            if (!comes('T')) {
                fault = at;
                return;
            }
            at++;
            realm.rate = figure(ANY_FIGURE);
            realm.free = figure(ANY_FIGURE);
            realm.price = figure(ANY_FIGURE);
            readTenths();
            for (int kind = 0; kind < KINDS; kind++) realm.odds[kind] = tenths[kind];
        }

        private void readPart(Realm realm, State state) {
            if (comes('P') && realm.people < MOST_PEOPLE) {
                at++;
                readPerson(realm, state);
            } else if (comes('R') && realm.roadStarts() != 0) {
                at++;
                readRoad(realm);
            } else {
                fault = at;
            }
        }

        private void readPerson(Realm realm, State state) {
            int person = realm.people;
            readTenths();
            for (int kind = 0; kind < KINDS; kind++) state.setExpected(person, kind, tenths[kind]);
            state.setCoins(person, TENTHS * figure(ANY_FIGURE));
            realm.nerve[person] = figure(NERVES);
            realm.people++;
        }

        private void readRoad(Realm realm) {
            int from = figure(realm.roadStarts());
            int to = figure(realm.roadEnds(from));
            if (fault == NONE) realm.addRoad(from, to);
        }

        /** A figure may not leave more tenths than those behind it can hold, 9 each. */
        private void readTenths() {
            int left = TENTHS;
            for (int kind = 0; kind < KINDS; kind++) {
                int least = Math.max(0, left - 9 * (KINDS - 1 - kind));
                int most = Math.min(9, left);
                tenths[kind] = figure((2 << most) - (1 << least));
                left -= tenths[kind];
            }
        }

        /** The next figure, if it is one of these (bits); the first that is not is the FAULT. */
        private int figure(int allowed) {
            if (fault != NONE) return 0;
            int next = at < length ? bytes[at] - '0' : -1;
            if (next < 0 || next > 9 || (allowed >> next & 1) == 0) {
                fault = at;
                return 0;
            }
            at++;
            return next;
        }

        private boolean comes(int letter) {
            return at < length && bytes[at] == letter;
        }
    }

    /** What THE TEXT sets and no ACT changes, and the tax that follows from it. */
    private static final class Realm {
        private final int[] odds = new int[KINDS];
        private final int[] nerve = new int[MOST_PEOPLE];
        /** Of each one to whom ROADS lead, as bits. */
        private final int[] roads = new int[MOST_PEOPLE];
        private int rate = 0;
        private int free = 0;
        private int price = 0;
        /** MOST_PEOPLE at most, as readPart sees to it: so the rows hold all of them. */
        private int people = 0;
        private int roadCount = 0;

        /** The law and the NERVES stay, for whoever tells them anew writes over them. */
        void sendAllAway() {
            people = 0;
            roadCount = 0;
            for (int person = 0; person < MOST_PEOPLE; person++) roads[person] = 0;
        }

        boolean has(int person) {
            return person >= 0 && person < people;
        }

        int everybody() {
            return (1 << people) - 1;
        }

        int oddsAsFigures() {
            int figures = 0;
            for (int kind = 0; kind < KINDS; kind++) figures = figures * TENTHS + odds[kind];
            return figures;
        }

        boolean hasRoad(int from, int to) {
            return (roads[from] >> to & 1) != 0;
        }

        /** From whom one more ROAD can lead (bits). */
        int roadStarts() {
            if (roadCount >= MOST_ROADS) return 0;
            int starts = 0;
            for (int person = 0; person < people; person++) {
                if (roadEnds(person) != 0) starts |= 1 << person;
            }
            return starts;
        }

        /** To whom one more ROAD can lead from there (bits). */
        int roadEnds(int from) {
            return has(from) ? everybody() & ~roads[from] & ~(1 << from) : 0;
        }

        void addRoad(int from, int to) {
            if (!has(from) || !has(to)) return;
            roads[from] |= 1 << to;
            roads[to] |= 1 << from;
            roadCount++;
        }

        boolean isBraced(int set) {
            for (int person = 0; person < people; person++) {
                boolean mustBe = Integer.bitCount(roads[person] & set) >= nerve[person];
                if (mustBe != ((set >> person & 1) != 0)) return false;
            }
            return true;
        }

        int debtors(State state) {
            int debtors = 0;
            for (int person = 0; person < people; person++) {
                if (state.coins(person) < 0) debtors |= 1 << person;
            }
            return debtors;
        }

        int taxOf(State state, int person, int kind) {
            return rate * state.surprise(person, kind, free);
        }

        /** Whether nobody is in DEBT behind this EVENT by another RATE and FREE. */
        boolean allCanPay(State state, int kind, int otherRate, int otherFree) {
            for (int person = 0; person < people; person++) {
                int due = otherRate * state.surprise(person, kind, otherFree);
                if (state.coins(person) < due) return false;
            }
            return true;
        }

        int meanTenfold(State state, int person) {
            int sum = 0;
            for (int kind = 0; kind < KINDS; kind++) sum += odds[kind] * taxOf(state, person, kind);
            return sum;
        }

        /** An EVENT comes; answers all TAX that is paid. */
        int come(State state, int kind) {
            int all = 0;
            for (int person = 0; person < people; person++) {
                int due = taxOf(state, person, kind);
                all += due;
                state.pay(person, due);
                state.learn(person, kind);
            }
            state.beginDay();
            return all;
        }

        int drawnBy(long x) {
            int drawn = (int) ((x >>> 33) % TENTHS);
            int sum = 0;
            for (int kind = 0; kind < KINDS; kind++) {
                sum += odds[kind];
                if (sum > drawn) return kind;
            }
            return KINDS - 1;
        }
    }

    /** All that ACTS change, in one row of cells, so that it is kept and undone as one piece. */
    private static final class State {
        private static final int COINS = MOST_PEOPLE * KINDS;
        private static final int DECLARED = COINS + MOST_PEOPLE;
        private static final int HEARD = DECLARED + MOST_PEOPLE;
        private static final int DAY = HEARD + MOST_PEOPLE;
        private static final int CELLS = DAY + 1;

        private final int[] cells = new int[CELLS];

        State() {
            clear();
        }

        void clear() {
            for (int cell = 0; cell < CELLS; cell++) cells[cell] = 0;
            forgetNews();
        }

        void copyFrom(State other) {
            System.arraycopy(other.cells, 0, cells, 0, CELLS);
        }

        void saveTo(int[] store, int place) {
            System.arraycopy(cells, 0, store, place * CELLS, CELLS);
        }

        void loadFrom(int[] store, int place) {
            System.arraycopy(store, place * CELLS, cells, 0, CELLS);
        }

        int expected(int person, int kind) {
            return cells[person * KINDS + kind];
        }

        void setExpected(int person, int kind, int tenths) {
            cells[person * KINDS + kind] = tenths;
        }

        int coins(int person) {
            return cells[COINS + person];
        }

        void setCoins(int person, int coins) {
            cells[COINS + person] = coins;
        }

        void pay(int person, int coins) {
            cells[COINS + person] -= coins;
        }

        int declared(int person) {
            return cells[DECLARED + person];
        }

        void setDeclared(int person, int kind) {
            cells[DECLARED + person] = kind;
        }

        int heard(int person) {
            return cells[HEARD + person];
        }

        void setHeard(int person, int kind) {
            cells[HEARD + person] = kind;
        }

        /** Whether one has neither DECLARED nor HEARD anything. */
        boolean isOpen(int person) {
            return declared(person) == NONE && heard(person) == NONE;
        }

        int day() {
            return cells[DAY];
        }

        void beginDay() {
            cells[DAY]++;
            forgetNews();
        }

        void forgetNews() {
            for (int person = 0; person < MOST_PEOPLE; person++) {
                setDeclared(person, NONE);
                setHeard(person, NONE);
            }
        }

        int surprise(int person, int kind, int free) {
            int declared = cells[DECLARED + person];
            if (declared == kind) return 0;
            if (declared != NONE) return TENTHS - free;
            int whole = Math.max(0, TENTHS - cells[person * KINDS + kind] - free);
            return cells[HEARD + person] == kind ? whole / 2 : whole;
        }

        void learn(int person, int kind) {
            if (expected(person, kind) >= TENTHS) return;
            int most = kind == 0 ? 1 : 0;
            for (int other = most + 1; other < KINDS; other++) {
                if (other != kind && expected(person, other) > expected(person, most)) most = other;
            }
            setExpected(person, kind, expected(person, kind) + 1);
            setExpected(person, most, expected(person, most) - 1);
        }

        void expectOnly(int person, int kind) {
            for (int other = 0; other < KINDS; other++) setExpected(person, other, 0);
            setExpected(person, kind, TENTHS);
        }
    }

    /** How all was ahead of each of the last ACTS: a ring, in which the oldest is overwritten. */
    private static final class Acts {
        private final int[] store = new int[MOST_ACTS * State.CELLS];
        private int count = 0;
        private int next = 0;

        int count() {
            return count;
        }

        void clear() {
            count = 0;
        }

        void remember(State state) {
            state.saveTo(store, next);
            next = next + 1 < MOST_ACTS ? next + 1 : 0;
            count = Math.min(MOST_ACTS, count + 1);
        }

        void takeBack(State state) {
            if (count == 0) return;
            next = next > 0 ? next - 1 : MOST_ACTS - 1;
            count--;
            state.loadFrom(store, next);
        }
    }

    private static final class Slots {
        private final int[] store = new int[SLOTS * State.CELLS];
        private final boolean[] kept = new boolean[SLOTS];

        void clear() {
            for (int slot = 0; slot < SLOTS; slot++) kept[slot] = false;
        }

        boolean isKept(int slot) {
            return kept[slot];
        }

        void put(int slot, State state) {
            state.saveTo(store, slot);
            kept[slot] = true;
        }

        void giveBack(int slot, State state) {
            state.loadFrom(store, slot);
        }
    }

    /** What is told to have been paid, and the TALES that fit it. */
    private static final class Rolls {
        private final int[] person = new int[MOST_ROLLS];
        private final int[] paid = new int[MOST_ROLLS];
        private int count = 0;
        /** Of the TALES read last: how many fit, by which KINDS, and who is in all of them. */
        private int fitting = 0;
        private int kinds = 0;
        private int sure = 0;

        int count() {
            return count;
        }

        void clear() {
            count = 0;
        }

        void add(int who, int t) {
            if (count >= MOST_ROLLS) return;
            person[count] = who;
            paid[count] = t;
            count++;
        }

        int fitting() {
            return fitting;
        }

        int kinds() {
            return kinds;
        }

        int sure() {
            return fitting == 0 ? NONE : sure;
        }

        void readTales(Realm realm, State state) {
            int open = 0;
            for (int one = 0; one < realm.people; one++) {
                if (state.isOpen(one)) open |= 1 << one;
            }
            fitting = 0;
            kinds = 0;
            sure = open;
            for (int kind = 0; kind < KINDS; kind++) {
                for (int knew = 0; knew <= open; knew++) {
                    if ((knew & ~open) == 0 && fits(realm, state, kind, knew)) addTale(kind, knew);
                }
            }
        }

        private void addTale(int kind, int knew) {
            fitting++;
            kinds |= 1 << kind;
            sure &= knew;
        }

        private boolean fits(Realm realm, State state, int kind, int knew) {
            for (int i = 0; i < count; i++) {
                int who = person[i];
                if (!realm.has(who)) continue;
                boolean payer = (knew >> who & 1) == 0;
                if (paid[i] != (payer ? realm.taxOf(state, who, kind) : 0)) return false;
            }
            return true;
        }
    }

    /** What is best for one, in tenths of COINS, so that means stay whole numbers. */
    private static final class Advice {
        /** What is tried is tried here, so that nothing changes. */
        private final State trial = new State();
        /** Of the choice made last: what to DECLARE, and ten times what is paid in the mean. */
        private int choice = NONE;
        private int tenfold = 0;

        int bestToDeclare(Realm realm, State now, int person) {
            trial.copyFrom(now);
            choose(realm, person);
            return choice;
        }

        int worthOfNews(Realm realm, State now, int person) {
            trial.copyFrom(now);
            choose(realm, person);
            return tenfold / TENTHS;
        }

        /**
         * The least mean, times as many tens as there are DAYS. What is DECLARED leaves HABITS as
         * they are, so the best of each morning stands for itself, by the EVENTS ahead of it.
         */
        int leastTenfold(Realm realm, State now, int person, int n) {
            int sum = 0;
            for (int days = 0; days < n; days++) {
                int scale = power(TENTHS, n - 1 - days);
                int rows = power(KINDS, days);
                for (int row = 0; row < rows; row++) {
                    trial.copyFrom(now);
                    int weight = playRow(realm, days, row);
                    choose(realm, person);
                    sum += weight * scale * tenfold;
                }
            }
            return sum;
        }

        int fairPrize(Realm realm, State now, int person, int kind, int s) {
            int odds = realm.odds[kind];
            if (odds == 0) return NONE;
            int due = TENTHS * s + realm.meanTenfold(now, person);
            return (due + odds - 1) / odds;
        }

        /** Leaves trial behind these EVENTS; answers the product of their ODDS. */
        private int playRow(Realm realm, int days, int row) {
            int weight = 1;
            for (int day = 0; day < days; day++) {
                int kind = kindAt(row, days, day);
                weight *= realm.odds[kind];
                realm.come(trial, kind);
            }
            return weight;
        }

        /** One that has DECLARED has no choice any more. Leaves trial as it tried last. */
        private void choose(Realm realm, int person) {
            choice = NONE;
            tenfold = realm.meanTenfold(trial, person);
            if (trial.declared(person) != NONE) return;
            for (int kind = 0; kind < KINDS; kind++) {
                trial.setDeclared(person, kind);
                int other = TENTHS * realm.price + realm.meanTenfold(trial, person);
                if (other < tenfold) {
                    choice = kind;
                    tenfold = other;
                }
            }
        }
    }

    /** EVENTS as they may come from now on, played on a copy. */
    private static final class Foresight {
        private final State ahead = new State();
        /** The EVENTS of the JOKE sought last, by two bits each. */
        private int jokeRow = 0;

        void begin(State now) {
            ahead.copyFrom(now);
        }

        void play(Realm realm, int kind) {
            realm.come(ahead, kind);
        }

        int coinsOfAll(Realm realm) {
            int sum = 0;
            for (int person = 0; person < realm.people; person++) sum += ahead.coins(person);
            return sum;
        }

        /** What the others pay; rows come by KINDS, so of like ones the first stays. */
        int seekJoke(Realm realm, State now, int person, int n) {
            int most = NONE;
            int rows = power(KINDS, n);
            for (int row = 0; row < rows; row++) {
                ahead.copyFrom(now);
                int paid = paidByOthers(realm, person, n, row);
                if (paid > most) {
                    most = paid;
                    jokeRow = row;
                }
            }
            return most;
        }

        int jokeEvent(int n, int i) {
            return kindAt(jokeRow, n, i);
        }

        /** NONE, if PERSON pays anything in this row. */
        private int paidByOthers(Realm realm, int person, int n, int row) {
            int sum = 0;
            for (int i = 0; i < n; i++) {
                int kind = kindAt(row, n, i);
                if (realm.taxOf(ahead, person, kind) != 0) return NONE;
                sum += realm.come(ahead, kind);
            }
            return sum;
        }

        int eventsUntilDebt(Realm realm, State now, int kind) {
            ahead.copyFrom(now);
            for (int events = 0; events <= 30; events++) {
                if (realm.debtors(ahead) != 0) return events;
                realm.come(ahead, kind);
            }
            return NONE;
        }

        /** Laws come by RATE, then FREE, so of like ones the first stays. */
        int nearestLaw(Realm realm, State now, int kind) {
            int nearest = NONE;
            int leastChange = 2 * TENTHS;
            for (int rate = 0; rate < TENTHS; rate++) {
                for (int free = 0; free < TENTHS; free++) {
                    int change = Math.abs(rate - realm.rate) + Math.abs(free - realm.free);
                    if (change < leastChange && realm.allCanPay(now, kind, rate, free)) {
                        leastChange = change;
                        nearest = TENTHS * rate + free;
                    }
                }
            }
            return nearest;
        }

        int surprisesIn(Realm realm, State now, int person, int school, int n, int row) {
            ahead.copyFrom(now);
            ahead.forgetNews();
            int sum = 0;
            for (int i = 0; i < n; i++) {
                int kind = figureAt(row, n, i);
                sum += ahead.surprise(person, kind, realm.free);
                if (school == 0) ahead.learn(person, kind);
                if (school == 2) ahead.expectOnly(person, kind);
            }
            return sum;
        }
    }
}
