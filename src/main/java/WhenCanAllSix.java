import java.util.Arrays;

/** When can all six: people who tick days, and what comes of their ticks (promises 1 to 65 of DOC.md). */
public final class WhenCanAllSix {
    public static final int NONE = -1;

    // REFUSALS
    private static final int BAD = -2;
    private static final int OTHER = -3;
    private static final int NOTHING = -4;
    private static final int STUCK = -5;
    private static final int FULL = -6;
    private static final int REFUSAL_KINDS = 5;
    private static final int NO_REFUSAL = 0;
    private static final int FAULT_AT_ZERO = -20;

    // KINDS of PEOPLE
    private static final int PERSON = 0;
    private static final int POLITE = 1;
    private static final int WAITING = 2;
    private static final int HALF = 3;
    private static final int CHOOSY = 4;
    private static final int HOPING = 5;

    // TICKS
    private static final int NO = 0;
    private static final int PERHAPS = 1;
    private static final int YES = 2;

    // SORTS of a ROW
    private static final int BYTES = 0;
    private static final int SHORTS = 1;
    private static final int INTS = 2;
    private static final int LONGS = 3;
    private static final int BOOLEANS = 4;

    // Limits
    private static final int MOST_DAYS = 14;
    private static final int MOST_PEOPLE = 8;
    private static final int MOST_OUT = 99;
    private static final int MOST_A = 13;
    private static final int MOST_DINNERS = 3;
    private static final int MOST_ELEMENTS = 40;
    private static final int SHELVES = 8;
    private static final int TAPE_ROOM = 250;
    private static final int NINETY_NINE = 99;
    private static final int MOST_YEARS = 50;
    private static final int MOST_CROWD = 20;
    private static final int TWELVE = 12;
    private static final int MILLION = 1_000_000;
    private static final int WEEK = 7;

    private final Circle now = new Circle();
    private final Circle kept = new Circle();
    private boolean anyKept;
    private final Ticks ticks = new Ticks();
    private final Choice choice = new Choice();
    private final Reader reader = new Reader();
    private final Shelf[] shelves = new Shelf[SHELVES];
    private final int[] crowd = new int[MOST_CROWD + 1];
    private final int[] refusals = new int[REFUSAL_KINDS];

    public WhenCanAllSix() {
        for (int s = 0; s < SHELVES; s++) {
            shelves[s] = new Shelf();
        }
    }

    // ---- SHELVES ----

    public int row(int s, int sort, int n) {
        if (!isShelf(s) || !within(sort, BYTES, BOOLEANS) || !within(n, 0, MOST_ELEMENTS)) {
            return refuse(BAD);
        }
        shelves[s].holdRow(sort, n);
        return 1;
    }

    public int set(int s, int i, long v) {
        int trouble = troubleOfRow(s);
        if (trouble != NO_REFUSAL) {
            return refuse(trouble);
        }
        if (!within(i, 0, shelves[s].length - 1)) {
            return refuse(BAD);
        }
        shelves[s].put(i, v);
        return 1;
    }

    public int copy(int p, int q, int i, int j, int n) {
        if (!isShelf(p) || !isShelf(q)) {
            return refuse(BAD);
        }
        Shelf from = shelves[p];
        Shelf to = shelves[q];
        boolean twoSorts = from.content != NONE && to.content != NONE && from.content != to.content;
        if (from.holdsPerson() || to.holdsPerson() || twoSorts) {
            return refuse(OTHER);
        }
        if (from.content == NONE || to.content == NONE) {
            return refuse(NOTHING);
        }
        if (n < 0 || !within(i, 0, from.length - n) || !within(j, 0, to.length - n)) {
            return refuse(BAD);
        }
        System.arraycopy(from.elements, i, to.elements, j, n);
        return n;
    }

    public long element(int s, int i) {
        if (!isShelf(s) || !shelves[s].holdsRow()) {
            return 0;
        }
        return shelves[s].elementAt(i);
    }

    public int holds(int s) {
        return isShelf(s) ? shelves[s].content : NONE;
    }

    public int show(int s, int person) {
        if (!isShelf(s) || (person != NONE && !now.hasPerson(person))) {
            return refuse(BAD);
        }
        if (person == NONE) {
            shelves[s].holdNothing();
        } else {
            shelves[s].holdPerson(person);
        }
        return 1;
    }

    public int says(int s, int kind) {
        if (!isShelf(s) || !isKind(kind)) {
            return refuse(BAD);
        }
        Shelf shelf = shelves[s];
        if (shelf.content == NONE) {
            return refuse(NOTHING);
        }
        int number = shelf.personHeld();
        if (!now.hasPerson(number) || !now.people[number].isOfKind(kind)) {
            return refuse(OTHER);
        }
        return now.people[number].wordsAs(kind);
    }

    // ---- THE CALENDAR ----

    public int days(int n) {
        if (!within(n, 1, MOST_DAYS)) {
            return refuse(BAD);
        }
        int was = now.days;
        now.changeDays(n);
        return was;
    }

    public int person(int kind, int a, int likely) {
        if (!isKind(kind) || !within(a, 0, MOST_A) || !within(likely, 0, TWELVE)) {
            return refuse(BAD);
        }
        if (now.isFull()) {
            return refuse(FULL);
        }
        return now.takeIn(kind, a, likely);
    }

    public int free(int person, int day, boolean is) {
        if (!now.hasPerson(person) || !now.hasDay(day)) {
            return refuse(BAD);
        }
        Person one = now.people[person];
        int was = one.isFree(day) ? 1 : 0;
        one.changeFree(day, is);
        return was;
    }

    public int ask(int what, int v) {
        int was;
        if (what == 0 && now.hasPerson(v)) {
            was = now.host;
            now.host = v;
        } else if (what == 1 && within(v, 1, MOST_PEOPLE)) {
            was = now.least;
            now.least = v;
        } else if (what == 2 && within(v, 0, TWELVE)) {
            was = now.lose;
            now.lose = v;
        } else {
            was = refuse(BAD);
        }
        return was;
    }

    public int out(int person, int v) {
        if (!now.hasPerson(person) || !within(v, 0, MOST_OUT)) {
            return refuse(BAD);
        }
        int was = now.people[person].out;
        now.people[person].out = v;
        return was;
    }

    public int feed(int letter) {
        if (!within(letter, 0, 255)) {
            return refuse(BAD);
        }
        if (!reader.tape.takes(letter)) {
            return refuse(FULL);
        }
        return reader.tape.size;
    }

    public int wipe() {
        int was = reader.tape.size;
        reader.tape.size = 0;
        return was;
    }

    public int calendar() {
        reader.draft.takeOver(now);
        int statements = reader.readStatements();
        reader.tape.size = 0;
        if (reader.fault != NONE) {
            refuse(BAD);
            return FAULT_AT_ZERO - reader.fault;
        }
        now.takeOver(reader.draft);
        return statements;
    }

    public int personOf(int person, int what) {
        if (!now.hasPerson(person)) {
            return refuse(BAD);
        }
        Person one = now.people[person];
        switch (what) {
            case 0: return one.kind;
            case 1: return one.a;
            case 2: return one.likely;
            case 3: return one.free;
            case 4: return one.out;
            default: return refuse(BAD);
        }
    }

    // ---- TICKS ----

    public int tick(int person, int day) {
        if (!now.hasPerson(person) || !now.hasDay(day)) {
            return refuse(BAD);
        }
        ticks.reckon(now);
        return ticks.table[person][day];
    }

    public int count(int day) {
        if (!now.hasDay(day)) {
            return refuse(BAD);
        }
        ticks.reckon(now);
        return ticks.counts[day];
    }

    public int best(int what) {
        if (!within(what, 0, 1)) {
            return refuse(BAD);
        }
        if (now.size == 0) {
            return refuse(STUCK);
        }
        ticks.reckon(now);
        return what == 0 ? ticks.bestOfAll() : ticks.bestAmong(ticks.daysWithYes(now.host));
    }

    public int there(int day) {
        return now.hasDay(day) ? now.thereOn(day) : refuse(BAD);
    }

    public int all() {
        return now.daysOfAllBut(NONE);
    }

    public int held(int person, int what) {
        if (!now.hasPerson(person) || !within(what, 0, 1)) {
            return refuse(BAD);
        }
        ticks.reckon(now);
        int yeses = ticks.daysWithYes(person);
        if (what == 1) {
            yeses &= ~(1 << ticks.bestOfAll());
        }
        return Integer.bitCount(yeses);
    }

    // ---- WHAT COMES OF IT ----

    public int odds(int p, int d, int k) {
        if (!within(p, 1, NINETY_NINE) || !within(d, 1, NINETY_NINE) || !within(k, 0, TWELVE)) {
            return refuse(BAD);
        }
        return oddsOfDays(oneDay(p, k), d);
    }

    public int offer(int p, int k, int v) {
        if (!within(p, 1, NINETY_NINE) || !within(k, 0, TWELVE) || !within(v, 0, MILLION)) {
            return refuse(BAD);
        }
        int one = oneDay(p, k);
        int left = MILLION;
        for (int d = 1; d <= NINETY_NINE; d++) {
            left = leftAfterDay(left, one);
            if (MILLION - left >= v) {
                return d;
            }
        }
        return NONE;
    }

    public int never(int d, int k, int v) {
        if (!within(d, 1, NINETY_NINE) || !within(k, 0, TWELVE) || !within(v, 0, MILLION)) {
            return refuse(BAD);
        }
        int one = MILLION;
        for (int p = 1; p <= NINETY_NINE; p++) {
            one = twelfths(one, k);
            if (oddsOfDays(one, d) < v) {
                return p;
            }
        }
        return NONE;
    }

    public int known(int day, int t) {
        if (!now.hasDay(day) || !within(t, 0, NINETY_NINE)) {
            return refuse(BAD);
        }
        int odds = now.oddsToday(day);
        for (int i = 0; i < t; i++) {
            odds = now.oddsNextDay(odds);
        }
        return odds;
    }

    public int first(int i) {
        if (!within(i, NONE, now.size - 1)) {
            return refuse(BAD);
        }
        if (now.size == 0) {
            return refuse(STUCK);
        }
        return i == NONE ? now.meanAsked() : now.placeByLikely(i);
    }

    public int two(int i) {
        return meeting(2, i);
    }

    public int fixed() {
        int chosen = 0;
        for (int r = 1; r < WEEK; r++) {
            if (now.totalOnWeekday(r) > now.totalOnWeekday(chosen)) {
                chosen = r;
            }
        }
        return chosen;
    }

    public int fair(int k, int i) {
        if (!within(k, 1, MOST_DINNERS) || !within(i, NONE, k - 1)) {
            return refuse(BAD);
        }
        if (now.days < k || now.size == 0) {
            return refuse(STUCK);
        }
        choice.chooseFair(now, k);
        return i == NONE ? choice.greatestOut() : choice.chosen[i];
    }

    public int worst() {
        if (now.size == 0) {
            return refuse(STUCK);
        }
        int chosen = 0;
        for (int p = 1; p < now.size; p++) {
            if (now.people[p].out > now.people[chosen].out) {
                chosen = p;
            }
        }
        return chosen;
    }

    public int drop(int what) {
        if (!within(what, 0, 1)) {
            return refuse(BAD);
        }
        if (now.size == 0) {
            return refuse(STUCK);
        }
        int chosen = NONE;
        int most = NONE;
        for (int p = 0; p < now.size; p++) {
            int left = Integer.bitCount(now.daysOfAllBut(p));
            if (left > most) {
                most = left;
                chosen = p;
            }
        }
        return what == 0 ? chosen : most;
    }

    public int pairs() {
        int chosen = NONE;
        int most = NONE;
        for (int p = 0; p < now.size; p++) {
            for (int q = p + 1; q < now.size; q++) {
                int together = Integer.bitCount(now.people[p].free & now.people[q].free);
                if (together > most) {
                    most = together;
                    chosen = 10 * p + q;
                }
            }
        }
        return chosen;
    }

    public int quiet() {
        ticks.reckon(now);
        int loud = 0;
        for (int p = 0; p < now.size; p++) {
            loud |= ticks.daysWithYes(p);
        }
        return now.allDays() & ~loud;
    }

    public int agree(int person, int other) {
        if (!now.hasPerson(person) || !now.hasPerson(other) || person == other) {
            return refuse(BAD);
        }
        ticks.reckon(now);
        return ticks.daysWithYes(person) & ticks.daysWithYes(other);
    }

    public int votes(int day, int tick) {
        if (!now.hasDay(day) || !within(tick, NO, YES)) {
            return refuse(BAD);
        }
        ticks.reckon(now);
        int voters = 0;
        for (int p = 0; p < now.size; p++) {
            if (ticks.table[p][day] == tick) {
                voters++;
            }
        }
        return voters;
    }

    public int order(int i) {
        if (!now.hasDay(i)) {
            return refuse(BAD);
        }
        ticks.reckon(now);
        return ticks.dayAtPlace(i);
    }

    public int without(int person) {
        if (!now.hasPerson(person)) {
            return refuse(BAD);
        }
        ticks.reckon(now);
        ticks.leaveOut(person);
        return ticks.bestOfAll();
    }

    public int until(int day, int v) {
        if (!now.hasDay(day) || !within(v, 0, MILLION)) {
            return refuse(BAD);
        }
        int odds = now.oddsToday(day);
        for (int t = 0; t <= NINETY_NINE; t++) {
            if (odds < v) {
                return t;
            }
            odds = now.oddsNextDay(odds);
        }
        return NONE;
    }

    public int alone() {
        int bits = 0;
        for (int p = 0; p < now.size; p++) {
            if (now.howManyShare(p) == 0) {
                bits |= 1 << p;
            }
        }
        return bits;
    }

    public int with(int k) {
        return within(k, 0, MOST_PEOPLE) ? now.daysWithAtLeast(k) : refuse(BAD);
    }

    public int reach(int person) {
        return now.hasPerson(person) ? now.howManyShare(person) : refuse(BAD);
    }

    public int three(int i) {
        return meeting(3, i);
    }

    public int run() {
        int dining = now.daysWithAtLeast(now.least);
        int length = 0;
        int longest = 0;
        for (int day = 0; day < now.days; day++) {
            length = hasBit(dining, day) ? length + 1 : 0;
            longest = Math.max(longest, length);
        }
        return longest;
    }

    public int weeks(int r) {
        return within(r, 0, WEEK - 1) ? now.totalOnWeekday(r) : refuse(BAD);
    }

    public int spread() {
        if (now.size == 0) {
            return 0;
        }
        int least = MOST_OUT;
        int greatest = 0;
        for (int p = 0; p < now.size; p++) {
            least = Math.min(least, now.people[p].out);
            greatest = Math.max(greatest, now.people[p].out);
        }
        return greatest - least;
    }

    public int mean() {
        if (now.days < 1) {
            return 0;
        }
        int together = 0;
        for (int p = 0; p < now.size; p++) {
            together += Integer.bitCount(now.people[p].free);
        }
        return 1000 * together / now.days;
    }

    public int withHost(int person) {
        if (!now.hasPerson(person) || !now.hasPerson(now.host)) {
            return refuse(BAD);
        }
        return firstBit(now.people[person].free & now.people[now.host].free, 0);
    }

    public int most(int p, int k, int m) {
        if (!within(p, 0, MOST_CROWD) || !within(k, 0, TWELVE) || !within(m, 0, MOST_CROWD)) {
            return refuse(BAD);
        }
        Arrays.fill(crowd, 0);
        crowd[0] = MILLION;
        for (int i = 0; i < p; i++) {
            addToCrowd(k);
        }
        int together = 0;
        for (int j = m; j <= MOST_CROWD; j++) {
            together += crowd[j];
        }
        return together;
    }

    public int later(int day) {
        return now.hasDay(day) ? firstBit(now.daysWithAtLeast(now.least), day) : refuse(BAD);
    }

    // ---- Told ROWS and PLANS ----

    public int meant(int s, int person) {
        int trouble = troubleOfTicks(s, person);
        if (trouble != NO_REFUSAL) {
            return refuse(trouble);
        }
        ticks.reckonAheadOf(now, person);
        int kinds = 0;
        for (int kind = PERSON; kind <= HOPING; kind++) {
            if (ticks.ticksSo(now, now.people[person], kind, shelves[s])) {
                kinds |= 1 << kind;
            }
        }
        return kinds;
    }

    public int freed(int s, int person) {
        int trouble = troubleOfTicks(s, person);
        if (trouble != NO_REFUSAL) {
            return refuse(trouble);
        }
        int kind = now.people[person].kind;
        int must = 0;
        for (int day = 0; day < now.days; day++) {
            long tick = shelves[s].elementAt(day);
            if ((tick == YES && kind != POLITE) || (tick == PERHAPS && kind == WAITING)) {
                must |= 1 << day;
            }
        }
        return must;
    }

    public int judge(int s, int n) {
        int trouble = troubleOfPlan(s, n);
        return trouble == NO_REFUSAL ? firstWrong(shelves[s], n) : refuse(trouble);
    }

    public int leftOut(int s, int n, int what) {
        int trouble = within(what, 0, 1) ? troubleOfRightPlan(s, n) : BAD;
        if (trouble != NO_REFUSAL) {
            return refuse(trouble);
        }
        int together = 0;
        int greatest = 0;
        for (int p = 0; p < now.size; p++) {
            int missed = shelves[s].daysNotFree(now.people[p], n);
            together += missed;
            greatest = Math.max(greatest, now.people[p].outAfter(missed));
        }
        return what == 0 ? together : greatest;
    }

    public int done(int s, int n) {
        int trouble = troubleOfRightPlan(s, n);
        if (trouble != NO_REFUSAL) {
            return refuse(trouble);
        }
        for (int i = 0; i < n; i++) {
            now.dinnerOn((int) shelves[s].elementAt(i));
        }
        return now.dinners;
    }

    // ---- IN TRUTH ----

    public int dine(int day) {
        if (!now.hasDay(day)) {
            return refuse(BAD);
        }
        if (now.howManyOn(day) < now.least) {
            return refuse(STUCK);
        }
        now.dinnerOn(day);
        return now.howManyOn(day);
    }

    public int clear(int person) {
        if (!now.hasPerson(person)) {
            return refuse(BAD);
        }
        int were = Integer.bitCount(now.people[person].free);
        now.people[person].free = 0;
        return were;
    }

    public int pass(int n) {
        if (!within(n, 1, NINETY_NINE)) {
            return refuse(BAD);
        }
        int gone = 0;
        for (int i = 0; i < n; i++) {
            gone += now.passDay();
        }
        return gone;
    }

    public int fill() {
        return now.fillByDraws();
    }

    public int years(int n) {
        if (!within(n, 1, MOST_YEARS)) {
            return refuse(BAD);
        }
        if (now.size == 0) {
            return refuse(STUCK);
        }
        int before = now.dinners;
        for (int year = 0; year < n; year++) {
            now.fillByDraws();
            ticks.reckon(now);
            int day = ticks.bestOfAll();
            if (now.howManyOn(day) >= now.least) {
                now.dinnerOn(day);
            }
        }
        return now.dinners - before;
    }

    public int seed(int v) {
        int was = now.seed;
        now.seed = v;
        return was;
    }

    public int image() {
        kept.takeOver(now);
        anyKept = true;
        return 1;
    }

    public int back() {
        if (!anyKept) {
            return refuse(STUCK);
        }
        now.takeOver(kept);
        for (int s = 0; s < SHELVES; s++) {
            if (shelves[s].holdsPerson() && !now.hasPerson(shelves[s].personHeld())) {
                shelves[s].holdNothing();
            }
        }
        return 1;
    }

    public int status(int what) {
        switch (what) {
            case 0: return now.size;
            case 1: return now.days;
            case 2: return now.host;
            case 3: return now.least;
            case 4: return now.lose;
            case 5: return now.dinners;
            case 6: return now.outTogether();
            case 7: return reader.tape.size;
            case 8: return now.seed;
            case 9: return shelvesInUse();
            default: return within(what, 12, 11 + REFUSAL_KINDS) ? refusals[what - 12] : NONE;
        }
    }

    // ---- Refusing ----

    private int refuse(int number) {
        int i = BAD - number;
        if (within(i, 0, REFUSAL_KINDS - 1)) {
            refusals[i]++;
        }
        return number;
    }

    private int troubleOfRow(int s) {
        if (!isShelf(s)) {
            return BAD;
        }
        if (shelves[s].holdsPerson()) {
            return OTHER;
        }
        return shelves[s].content == NONE ? NOTHING : NO_REFUSAL;
    }

    private int troubleOfTicks(int s, int person) {
        int trouble = now.hasPerson(person) ? troubleOfRow(s) : BAD;
        if (trouble != NO_REFUSAL) {
            return trouble;
        }
        if (shelves[s].length < now.days) {
            return BAD;
        }
        for (int day = 0; day < now.days; day++) {
            long tick = shelves[s].elementAt(day);
            if (tick < NO || tick > YES) {
                return STUCK;
            }
        }
        return NO_REFUSAL;
    }

    private int troubleOfPlan(int s, int n) {
        int trouble = within(n, 0, MOST_ELEMENTS) ? troubleOfRow(s) : BAD;
        if (trouble == NO_REFUSAL && n > shelves[s].length) {
            trouble = BAD;
        }
        return trouble;
    }

    private int troubleOfRightPlan(int s, int n) {
        int trouble = troubleOfPlan(s, n);
        if (trouble == NO_REFUSAL && firstWrong(shelves[s], n) != NONE) {
            trouble = STUCK;
        }
        return trouble;
    }

    // A DAY that comes twice is also one that isn't later than the one ahead, so one comparison finds both.
    private int firstWrong(Shelf plan, int n) {
        long ahead = NONE;
        for (int i = 0; i < n; i++) {
            long day = plan.elementAt(i);
            if (day <= ahead || day >= now.days || now.howManyOn((int) day) < now.least) {
                return i;
            }
            ahead = day;
        }
        return NONE;
    }

    // ---- Odds ----

    private static int twelfths(int part, int k) {
        return part * k / TWELVE;
    }

    private static int oneDay(int p, int k) {
        int one = MILLION;
        for (int i = 0; i < p; i++) {
            one = twelfths(one, k);
        }
        return one;
    }

    private static int leftAfterDay(int left, int one) {
        return (int) ((long) left * (MILLION - one) / MILLION);
    }

    private static int oddsOfDays(int one, int d) {
        int left = MILLION;
        for (int i = 0; i < d; i++) {
            left = leftAfterDay(left, one);
        }
        return MILLION - left;
    }

    // From the highest number down, so that each part is still the old one when the next higher takes from it.
    private void addToCrowd(int k) {
        for (int j = MOST_CROWD; j > 0; j--) {
            crowd[j] = twelfths(crowd[j], TWELVE - k) + twelfths(crowd[j - 1], k);
        }
        crowd[0] = twelfths(crowd[0], TWELVE - k);
    }

    // ---- Small helpers ----

    private int meeting(int k, int i) {
        if (!within(i, NONE, k - 1)) {
            return refuse(BAD);
        }
        if (now.days < k) {
            return refuse(STUCK);
        }
        choice.chooseMeeting(now, k);
        return i == NONE ? choice.worth : choice.chosen[i];
    }

    private int shelvesInUse() {
        int used = 0;
        for (int s = 0; s < SHELVES; s++) {
            if (shelves[s].content != NONE) {
                used++;
            }
        }
        return used;
    }

    private static boolean within(int v, int least, int most) {
        return v >= least && v <= most;
    }

    private static boolean isShelf(int s) {
        return within(s, 0, SHELVES - 1);
    }

    private static boolean isKind(int kind) {
        return within(kind, PERSON, HOPING);
    }

    private static boolean hasBit(int bits, int i) {
        return (bits >> i & 1) == 1;
    }

    private static int firstBit(int bits, int from) {
        for (int i = from; i < MOST_DAYS; i++) {
            if (hasBit(bits, i)) {
                return i;
            }
        }
        return NONE;
    }

    /** One of the PEOPLE. */
    private static final class Person {
        private int kind;
        private int a;
        private int likely;
        private int free;
        private int out;

        void begin(int newKind, int newA, int newLikely) {
            kind = newKind;
            a = newA;
            likely = newLikely;
            free = 0;
            out = 0;
        }

        void become(Person other) {
            kind = other.kind;
            a = other.a;
            likely = other.likely;
            free = other.free;
            out = other.out;
        }

        boolean isFree(int day) {
            return hasBit(free, day);
        }

        void changeFree(int day, boolean is) {
            free = is ? free | 1 << day : free & ~(1 << day);
        }

        boolean isOfKind(int wanted) {
            return wanted == PERSON || kind == wanted
                || (kind == HALF && wanted == POLITE) || (kind == CHOOSY && wanted == WAITING);
        }

        int wordsAs(int taken) {
            switch (taken) {
                case PERSON: return Integer.bitCount(free);
                case POLITE:
                case HALF: return likely;
                default: return a;
            }
        }

        int outAfter(int missed) {
            return Math.min(MOST_OUT, out + missed);
        }

        int tickAs(int taken, int day, int yesesAhead, boolean isFavourite) {
            boolean can = isFree(day);
            switch (taken) {
                case POLITE: return YES;
                case HALF: return can ? YES : PERHAPS;
                case WAITING: return !can ? NO : yesesAhead >= a ? YES : PERHAPS;
                case CHOOSY: return can && isFavourite ? YES : NO;
                case HOPING: return can && day == a ? YES : NO;
                default: return can ? YES : NO;
            }
        }
    }

    /** The DAYS and the PEOPLE with all that belongs to them: what an image keeps. */
    private static final class Circle {
        private int days = 11;
        private int size;
        private int host;
        private int least = 2;
        private int lose = 1;
        private int dinners;
        private int seed = 1;
        private final Person[] people = new Person[MOST_PEOPLE];

        Circle() {
            for (int p = 0; p < MOST_PEOPLE; p++) {
                people[p] = new Person();
            }
        }

        void takeOver(Circle other) {
            days = other.days;
            size = other.size;
            host = other.host;
            least = other.least;
            lose = other.lose;
            dinners = other.dinners;
            seed = other.seed;
            for (int p = 0; p < MOST_PEOPLE; p++) {
                people[p].become(other.people[p]);
            }
        }

        boolean hasDay(int day) {
            return within(day, 0, days - 1);
        }

        boolean hasPerson(int number) {
            return within(number, 0, size - 1);
        }

        boolean isFull() {
            return size >= MOST_PEOPLE;
        }

        int allDays() {
            return (1 << days) - 1;
        }

        void changeDays(int n) {
            days = n;
            for (int p = 0; p < size; p++) {
                people[p].free &= allDays();
            }
        }

        int takeIn(int kind, int a, int likely) {
            if (isFull()) {
                return NONE;
            }
            people[size].begin(kind, a, likely);
            size++;
            return size - 1;
        }

        int thereOn(int day) {
            int bits = 0;
            for (int p = 0; p < size; p++) {
                if (people[p].isFree(day)) {
                    bits |= 1 << p;
                }
            }
            return bits;
        }

        int howManyOn(int day) {
            return Integer.bitCount(thereOn(day));
        }

        int totalOnWeekday(int r) {
            int together = 0;
            for (int day = r; day < days; day += WEEK) {
                together += howManyOn(day);
            }
            return together;
        }

        int daysWithAtLeast(int k) {
            int bits = 0;
            for (int day = 0; day < days; day++) {
                if (howManyOn(day) >= k) {
                    bits |= 1 << day;
                }
            }
            return bits;
        }

        int daysOfAllBut(int person) {
            int bits = allDays();
            for (int p = 0; p < size; p++) {
                if (p != person) {
                    bits &= people[p].free;
                }
            }
            return bits;
        }

        int howManyShare(int person) {
            int others = 0;
            for (int p = 0; p < size; p++) {
                if (p != person && (people[p].free & people[person].free) != 0) {
                    others++;
                }
            }
            return others;
        }

        int outTogether() {
            int together = 0;
            for (int p = 0; p < size; p++) {
                together += people[p].out;
            }
            return together;
        }

        int oddsToday(int day) {
            return howManyOn(day) == size ? MILLION : 0;
        }

        int oddsNextDay(int odds) {
            int left = odds;
            for (int p = 0; p < size; p++) {
                left = twelfths(left, TWELVE - lose);
            }
            return left;
        }

        int placeByLikely(int i) {
            for (int p = 0; p < size; p++) {
                if (howManyAskedBefore(p) == i) {
                    return p;
                }
            }
            return NONE;
        }

        private int howManyAskedBefore(int person) {
            int before = 0;
            for (int p = 0; p < size; p++) {
                int more = people[p].likely - people[person].likely;
                if (more < 0 || (more == 0 && p < person)) {
                    before++;
                }
            }
            return before;
        }

        // The i-th is asked when all ahead of him are free; the mean is those chances together, kept whole
        // in parts of 12 to the number of PEOPLE so that only the last division cuts.
        int meanAsked() {
            long whole = 1;
            for (int i = 0; i < size; i++) {
                whole *= TWELVE;
            }
            long asked = whole;
            long together = 0;
            for (int i = 0; i < size; i++) {
                together += asked;
                int person = placeByLikely(i);
                asked = hasPerson(person) ? asked * people[person].likely / TWELVE : 0;
            }
            return (int) (1000 * together / whole);
        }

        void dinnerOn(int day) {
            for (int p = 0; p < size; p++) {
                if (!people[p].isFree(day)) {
                    people[p].out = people[p].outAfter(1);
                }
            }
            dinners++;
        }

        private int drawTwelfth() {
            seed = seed * 1103515245 + 12345;
            return (seed >>> 16) % TWELVE;
        }

        int passDay() {
            int gone = 0;
            for (int p = 0; p < size; p++) {
                for (int day = 0; day < days; day++) {
                    if (people[p].isFree(day) && drawTwelfth() < lose) {
                        people[p].changeFree(day, false);
                        gone++;
                    }
                }
            }
            return gone;
        }

        int fillByDraws() {
            int evenings = 0;
            for (int p = 0; p < size; p++) {
                for (int day = 0; day < days; day++) {
                    people[p].changeFree(day, drawTwelfth() < people[p].likely);
                }
                evenings += Integer.bitCount(people[p].free);
            }
            return evenings;
        }
    }

    /** All TICKS and COUNTS of a Circle, reckoned anew before each use. */
    private static final class Ticks {
        private final int[][] table = new int[MOST_PEOPLE][MOST_DAYS];
        private final int[] counts = new int[MOST_DAYS];
        private final int[] yeses = new int[MOST_DAYS];
        private int days;

        void reckon(Circle circle) {
            reckonAheadOf(circle, circle.size);
        }

        void reckonAheadOf(Circle circle, int person) {
            days = circle.days;
            Arrays.fill(counts, 0);
            Arrays.fill(yeses, 0);
            for (int p = 0; p < person; p++) {
                tickAll(circle.people[p], table[p]);
            }
        }

        private void tickAll(Person one, int[] ticks) {
            int favourite = dayOfMost(yeses);
            for (int day = 0; day < days; day++) {
                int tick = one.tickAs(one.kind, day, yeses[day], day == favourite);
                ticks[day] = tick;
                counts[day] += tick;
                yeses[day] += tick == YES ? 1 : 0;
            }
        }

        boolean ticksSo(Circle circle, Person one, int kind, Shelf told) {
            int favourite = dayOfMost(yeses);
            for (int day = 0; day < circle.days; day++) {
                if (one.tickAs(kind, day, yeses[day], day == favourite) != told.elementAt(day)) {
                    return false;
                }
            }
            return true;
        }

        void leaveOut(int person) {
            for (int day = 0; day < days; day++) {
                counts[day] -= table[person][day];
            }
        }

        int daysWithYes(int person) {
            int bits = 0;
            for (int day = 0; day < days; day++) {
                if (table[person][day] == YES) {
                    bits |= 1 << day;
                }
            }
            return bits;
        }

        int bestOfAll() {
            return dayOfMost(counts);
        }

        int bestAmong(int bits) {
            int chosen = NONE;
            for (int day = 0; day < days; day++) {
                if (hasBit(bits, day) && (chosen == NONE || counts[day] > counts[chosen])) {
                    chosen = day;
                }
            }
            return chosen;
        }

        int dayAtPlace(int i) {
            for (int day = 0; day < days; day++) {
                if (howManyBefore(day) == i) {
                    return day;
                }
            }
            return NONE;
        }

        private int howManyBefore(int day) {
            int before = 0;
            for (int other = 0; other < days; other++) {
                if (counts[other] > counts[day] || (counts[other] == counts[day] && other < day)) {
                    before++;
                }
            }
            return before;
        }

        private int dayOfMost(int[] numbers) {
            int chosen = 0;
            for (int day = 1; day < days; day++) {
                if (numbers[day] > numbers[chosen]) {
                    chosen = day;
                }
            }
            return chosen;
        }
    }

    /** Looks through all rows of k DAYS, in order, for the one of most worth: of several the first. */
    private static final class Choice {
        // 14 DAYS have 364 rows of three.
        private static final int MOST_ROWS = 364;
        // All OUT together stays below it: 8 times 99 at most.
        private static final int GREATEST_COUNTS = 1000;
        private static final int LESS_THAN_ANY = -MILLION;

        private final int[] there = new int[MOST_DAYS];
        private final int[] tried = new int[MOST_DINNERS];
        private final int[] chosen = new int[MOST_DINNERS];
        private int worth;

        void chooseMeeting(Circle circle, int k) {
            begin(circle, k);
            boolean more = true;
            for (int row = 0; more && row < MOST_ROWS; row++) {
                keepIfBetter(howManyMeet(k));
                more = nextRow(k, circle.days);
            }
        }

        void chooseFair(Circle circle, int k) {
            begin(circle, k);
            boolean more = true;
            for (int row = 0; more && row < MOST_ROWS; row++) {
                keepIfBetter(fairness(circle, k));
                more = nextRow(k, circle.days);
            }
        }

        int greatestOut() {
            return -worth / GREATEST_COUNTS;
        }

        private void begin(Circle circle, int k) {
            for (int day = 0; day < circle.days; day++) {
                there[day] = circle.thereOn(day);
            }
            for (int i = 0; i < k; i++) {
                tried[i] = i;
            }
            worth = LESS_THAN_ANY;
        }

        private void keepIfBetter(int value) {
            if (value > worth) {
                worth = value;
                System.arraycopy(tried, 0, chosen, 0, MOST_DINNERS);
            }
        }

        private boolean nextRow(int k, int days) {
            int i = k - 1;
            while (i >= 0 && tried[i] >= days - k + i) {
                i--;
            }
            if (i < 0) {
                return false;
            }
            tried[i]++;
            for (int j = i + 1; j < k; j++) {
                tried[j] = tried[j - 1] + 1;
            }
            return true;
        }

        private int howManyMeet(int k) {
            int met = 0;
            for (int i = 0; i < k; i++) {
                met |= there[tried[i]];
            }
            return Integer.bitCount(met);
        }

        // One number for "the greatest OUT, then all OUT together", less than nothing because least is best.
        private int fairness(Circle circle, int k) {
            int greatest = 0;
            int together = 0;
            for (int p = 0; p < circle.size; p++) {
                int missed = 0;
                for (int i = 0; i < k; i++) {
                    missed += hasBit(there[tried[i]], p) ? 0 : 1;
                }
                int out = circle.people[p].outAfter(missed);
                greatest = Math.max(greatest, out);
                together += out;
            }
            return -(greatest * GREATEST_COUNTS + together);
        }
    }

    /** A SHELF. Its content is told as holds() tells it: NONE, a SORT, or 10 and a number of the PEOPLE. */
    private static final class Shelf {
        private static final int FIRST_PERSON = 10;

        private int content = NONE;
        private int length;
        private final long[] elements = new long[MOST_ELEMENTS];

        boolean holdsRow() {
            return within(content, BYTES, BOOLEANS);
        }

        boolean holdsPerson() {
            return content >= FIRST_PERSON;
        }

        int personHeld() {
            return holdsPerson() ? content - FIRST_PERSON : NONE;
        }

        void holdNothing() {
            content = NONE;
            length = 0;
        }

        void holdPerson(int number) {
            content = FIRST_PERSON + number;
            length = 0;
        }

        void holdRow(int sort, int n) {
            content = sort;
            length = n;
            Arrays.fill(elements, 0);
        }

        long elementAt(int i) {
            return within(i, 0, length - 1) ? elements[i] : 0;
        }

        void put(int i, long v) {
            if (within(i, 0, length - 1)) {
                elements[i] = lowestBits(v);
            }
        }

        private long lowestBits(long v) {
            switch (content) {
                case BYTES: return (byte) v;
                case SHORTS: return (short) v;
                case INTS: return (int) v;
                case LONGS: return v;
                default: return v != 0 ? 1 : 0;
            }
        }

        int daysNotFree(Person one, int n) {
            int missed = 0;
            for (int i = 0; i < n; i++) {
                missed += one.isFree((int) elementAt(i)) ? 0 : 1;
            }
            return missed;
        }
    }

    /** THE TAPE, told TOKEN by TOKEN. */
    private static final class Tape {
        private static final int END = 0;
        private static final int WORD = 1;
        private static final int NUMBER = 2;
        private static final int SIGN = 3;
        private static final int STRANGE = 4;

        private final int[] bytes = new int[TAPE_ROOM];
        private int size;
        private int token;
        private int start;
        private int end;

        boolean takes(int letter) {
            if (size >= TAPE_ROOM) {
                return false;
            }
            bytes[size] = letter;
            size++;
            return true;
        }

        void rewind() {
            end = 0;
            nextToken();
        }

        void nextToken() {
            start = end;
            while (start < size && bytes[start] == ' ') {
                start++;
            }
            token = start < size ? tokenBegunBy(bytes[start]) : END;
            end = Math.min(size, start + 1);
            boolean isLong = token == WORD || token == NUMBER;
            while (isLong && end < size && tokenBegunBy(bytes[end]) == token) {
                end++;
            }
        }

        private static int tokenBegunBy(int letter) {
            if (within(letter, 'a', 'z')) {
                return WORD;
            }
            if (within(letter, '0', '9')) {
                return NUMBER;
            }
            return letter == ';' ? SIGN : STRANGE;
        }

        boolean isWord(String word) {
            if (token != WORD || end - start != word.length()) {
                return false;
            }
            for (int i = 0; i < word.length(); i++) {
                if (bytes[start + i] != word.charAt(i)) {
                    return false;
                }
            }
            return true;
        }

        // NONE for all that is no NUMBER of one or two digits.
        int numberToken() {
            if (token != NUMBER || end - start > 2) {
                return NONE;
            }
            int value = 0;
            for (int i = start; i < end; i++) {
                value = 10 * value + bytes[i] - '0';
            }
            return value;
        }
    }

    /** Reads THE TAPE as a CALENDAR into a draft, so that nothing has happened yet when a FAULT turns up. */
    private static final class Reader {
        private final Tape tape = new Tape();
        private final Circle draft = new Circle();
        private int fault;

        int readStatements() {
            fault = NONE;
            tape.rewind();
            int statements = 0;
            boolean more = true;
            while (more && statements < TAPE_ROOM) {
                readStatement();
                statements++;
                more = fault == NONE && tape.token == Tape.SIGN;
                if (more) {
                    tape.nextToken();
                }
            }
            if (fault == NONE && tape.token != Tape.END) {
                fault = tape.start;
            }
            return statements;
        }

        private void readStatement() {
            if (tape.isWord("days")) {
                readDays();
            } else if (tape.isWord("person") && !draft.isFull()) {
                readPerson();
            } else if (tape.isWord("free")) {
                readEvening(true);
            } else if (tape.isWord("busy")) {
                readEvening(false);
            } else if (tape.isWord("host")) {
                readHost();
            } else if (tape.isWord("least")) {
                readLeast();
            } else if (tape.isWord("lose")) {
                readLose();
            } else if (tape.isWord("out")) {
                readOut();
            } else {
                fault = tape.start;
            }
        }

        private void readDays() {
            tape.nextToken();
            int n = readNumber(1, MOST_DAYS);
            if (fault == NONE) {
                draft.changeDays(n);
            }
        }

        private void readPerson() {
            tape.nextToken();
            int kind = readNumber(PERSON, HOPING);
            int a = readNumber(0, MOST_A);
            int likely = readNumber(0, TWELVE);
            if (fault == NONE) {
                draft.takeIn(kind, a, likely);
            }
        }

        private void readEvening(boolean is) {
            tape.nextToken();
            int person = readNumber(0, draft.size - 1);
            int day = readNumber(0, draft.days - 1);
            if (fault == NONE) {
                draft.people[person].changeFree(day, is);
            }
        }

        private void readHost() {
            tape.nextToken();
            int person = readNumber(0, draft.size - 1);
            if (fault == NONE) {
                draft.host = person;
            }
        }

        private void readLeast() {
            tape.nextToken();
            int n = readNumber(1, MOST_PEOPLE);
            if (fault == NONE) {
                draft.least = n;
            }
        }

        private void readLose() {
            tape.nextToken();
            int n = readNumber(0, TWELVE);
            if (fault == NONE) {
                draft.lose = n;
            }
        }

        private void readOut() {
            tape.nextToken();
            int person = readNumber(0, draft.size - 1);
            int n = readNumber(0, MOST_OUT);
            if (fault == NONE) {
                draft.people[person].out = n;
            }
        }

        // After a FAULT nothing more is read, so that the FAULT stays the first one.
        private int readNumber(int least, int most) {
            if (fault != NONE) {
                return NONE;
            }
            int value = tape.numberToken();
            if (value == NONE || !within(value, least, most)) {
                fault = tape.start;
                return NONE;
            }
            tape.nextToken();
            return value;
        }
    }
}
