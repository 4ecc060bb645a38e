import java.util.NoSuchElementException;

/**
 * An island on which one weighs what one is in the minds of those who think of one.
 *
 * <p>Every row is made in a constructor and used again: a call makes no object, but for a LAW that is kept and an
 * exception that is thrown. Rows of numbers are read and written by at and put, which look at the index first.
 */
public final class RememberedWeight {
    public static final int NONE = -1;
    public static final int HIDDEN = -1000000;

    private static final int PERSONS_AT_MOST = 8;
    private static final int PLACES_OF_A_MIND = 4;
    private static final int ALL_PLACES = 32;
    private static final int KINDS = 3;
    private static final int POLITE = 0;
    private static final int TUNE = 2;
    private static final int STRONGEST = 9;
    private static final int THOUGHTS_TOLD_AT_MOST = 12;
    private static final int BODY_AT_MOST = 99;
    private static final int COINS_AT_MOST = 999;
    private static final int OLDEST_AGE = 99;
    private static final int LAST_HOUR = 9999;
    private static final int HOURS_AT_ONCE = 60;
    private static final int LOG_ROWS = 60;
    private static final int ACTS_KEPT = 40;

    private static final int BYTES_AT_MOST = 240;
    private static final int LAWS_AT_MOST = 4;
    private static final int DEEPEST_BRACKET = 6;
    private static final int ISLAND_TEXT = 0;
    private static final int LAW_TEXT = 1;
    private static final int NO_SUCH_SORT = -2;
    private static final int END_OF_TEXT = -1;

    private static final int NUMBER_LIMIT = 1000000;
    private static final int WORTH_LIMIT = 1000000;
    private static final int WORTH_OF_STRENGTH = 100000;
    private static final int WEIGHT_OF_BODY = 1000;
    private static final int LIFT_OF_WIND = 10000;
    private static final int BEARING = 1000000;
    private static final int WEIGHT_TOLD_AT_MOST = 2147483647;
    private static final long EXACT_NUMBERS = 1L << 24;
    private static final int GRAIN_DIGITS = 23;

    private static final int REFUSALS = 5;
    private static final int NO_SUCH = 0;
    private static final int OUT_OF_BOUNDS = 1;
    private static final int NOT_SO = 2;
    private static final int NO_ROOM = 3;
    private static final int TOO_LATE = 4;

    private static final int SEEN_AT_MOST = 10;
    private static final int SEEN_HOURS = 8;
    private static final int ALL_PARTS = 1000000000;
    private static final int ODDS_HOURS = 6;

    private final Tape tape = new Tape();
    private final IslandReader islandReader = new IslandReader();
    private final LawReader lawReader = new LawReader();
    private final Law[] laws = new Law[LAWS_AT_MOST];
    private int lawCount;
    private int lawThatHolds = NONE;
    private int memoryNow = 4;
    private final int[] refusals = new int[REFUSALS];
    private long drawn;

    private final Island island = new Island();
    private final State now = new State();
    private final State told = new State();
    private final State aside = new State();
    private final State picture = new State();
    private boolean pictured;
    private final Past past = new Past();
    private final Riddle riddle = new Riddle();
    private final Bridge bridge = new Bridge();
    private final Tunes tunes = new Tunes();
    private final int[] gains = new int[18];

    public RememberedWeight() {
    }

    // ---- the TAPE and its TEXTS ----

    public int feed(int a, int b, int c, int d, int e) {
        int more = signsOf(a) + signsOf(b) + signsOf(c) + signsOf(d) + signsOf(e);
        if (tape.length + more > BYTES_AT_MOST) {
            return NONE;
        }
        tape.append(a);
        tape.append(b);
        tape.append(c);
        tape.append(d);
        tape.append(e);
        return tape.length;
    }

    public boolean end(int n) {
        if (n < 0 || n > tape.length) {
            return false;
        }
        tape.length = n;
        return true;
    }

    public int fault(int sort) {
        if (sort == ISLAND_TEXT) {
            islandReader.read(tape);
            return tape.wrongAt;
        }
        if (sort == LAW_TEXT) {
            lawReader.read(tape);
            return tape.wrongAt;
        }
        return NO_SUCH_SORT;
    }

    public int text(int sort) {
        if (sort == ISLAND_TEXT && islandReader.read(tape)) {
            return settle();
        }
        if (sort == LAW_TEXT && lawCount < LAWS_AT_MOST && lawReader.read(tape)) {
            return enact();
        }
        return NONE;
    }

    private int settle() {
        tape.length = 0;
        island.settle(islandReader);
        told.settle(islandReader);
        now.copyAll(told);
        past.clear();
        riddle.clear();
        pictured = false;
        return island.persons;
    }

    private int enact() {
        int number = lawCount;
        if (number < 0 || number >= laws.length) {
            return NONE;
        }
        Law kept = new Law();
        kept.copy(lawReader.draft);
        laws[number] = kept;
        lawCount++;
        tape.length = 0;
        return number;
    }

    public boolean law(int law) {
        if (law == NONE) {
            island.law = null;
        } else if (law >= 0 && law < lawCount && law < laws.length) {
            island.law = laws[law];
        } else {
            return false;
        }
        lawThatHolds = law;
        riddle.solved = false;
        return true;
    }

    public boolean memory(int v) {
        if (v < 0 || v > 9 || v == memoryNow) {
            return false;
        }
        memoryNow = v;
        return true;
    }

    // ---- what is so now ----

    public int rule(int what) {
        if (!hasIsland()) {
            return NONE;
        }
        switch (what) {
            case 0: return now.wind;
            case 1: return island.ground;
            case 2: return island.bridge;
            case 3: return now.coins;
            default: return NONE;
        }
    }

    public int person(int person, int what) throws NoSuchElementException {
        if (!island.has(person) || what < 0 || what > 5) {
            throw new NoSuchElementException("no such person, or nothing such to tell of one");
        }
        switch (what) {
            case 0: return at(now.body, person);
            case 1: return at(island.deep, person);
            case 2: return at(island.mind, person);
            default: break;
        }
        island.weigh(now);
        long weight = now.weight(person);
        return what == 3 ? asTold(weight) : what == 4 ? heftOf(weight) : grainOf(weight);
    }

    public int thought(int person, int place, int what) {
        if (!island.has(person) || !isPlace(place)) {
            return NONE;
        }
        int i = person * PLACES_OF_A_MIND + place;
        if (at(now.whom, i) == NONE) {
            return NONE;
        }
        switch (what) {
            case 0: return at(now.whom, i);
            case 1: return at(now.kind, i);
            case 2: return at(now.strength, i);
            case 3: return at(now.age, i);
            case 4:
                island.weigh(now);
                return at(now.mass, i);
            default: return NONE;
        }
    }

    public int goes(int person, int kind) {
        if (!island.has(person) || !isKind(kind)) {
            return NONE;
        }
        return island.takes(person, kind) ? 1 : 0;
    }

    public int log(int i, int what) {
        if (i < 0 || i >= now.logLength() || what < 0 || what > 2) {
            return NONE;
        }
        return now.logged(i, what);
    }

    public int status(int what) {
        return what < 0 || what >= REFUSALS ? NONE : at(refusals, what);
    }

    public int count(int what) {
        switch (what) {
            case 0: return island.persons;
            case 1: return lawCount;
            case 2: return tape.length;
            case 3: return lawThatHolds;
            case 4: return now.hour;
            case 5: return memoryNow;
            case 6: return riddle.seenCount;
            case 7: return now.logLength();
            case 8: return past.kept;
            default: return HIDDEN;
        }
    }

    // ---- ACTS ----

    public int hours(int n) {
        if (!hasIsland()) {
            return refuse(NO_SUCH);
        }
        if (n < 1 || n > HOURS_AT_ONCE) {
            return refuse(OUT_OF_BOUNDS);
        }
        if (now.hour + n > LAST_HOUR) {
            return refuse(TOO_LATE);
        }
        island.weigh(now);
        for (int i = 0; i < n; i++) {
            past.keep(now);
            letAnHourPass();
        }
        return now.hour;
    }

    public int think(int person, int other, int kind, int strength) {
        if (!island.has(person) || !island.has(other)) {
            return refuse(NO_SUCH);
        }
        if (person == other || !isKind(kind) || strength < 1 || strength > STRONGEST) {
            return refuse(OUT_OF_BOUNDS);
        }
        if (!island.takes(person, kind)) {
            return refuse(NOT_SO);
        }
        int place = now.emptyPlace(person);
        if (place == NONE) {
            return refuse(NO_ROOM);
        }
        past.keep(now);
        now.lay(person, place, other, kind, strength);
        return place;
    }

    public int forget(int person, int place) {
        if (!island.has(person)) {
            return refuse(NO_SUCH);
        }
        if (!isPlace(place)) {
            return refuse(OUT_OF_BOUNDS);
        }
        int i = person * PLACES_OF_A_MIND + place;
        int whom = at(now.whom, i);
        if (whom == NONE) {
            return refuse(NOT_SO);
        }
        past.keep(now);
        put(now.whom, i, NONE);
        return whom;
    }

    public int hem(int person, int n) {
        if (!island.has(person)) {
            return refuse(NO_SUCH);
        }
        if (n < 1 || n > 9) {
            return refuse(OUT_OF_BOUNDS);
        }
        int body = at(now.body, person) + n;
        if (now.coins < n || body > BODY_AT_MOST) {
            return refuse(NO_ROOM);
        }
        past.keep(now);
        now.coins -= n;
        put(now.body, person, body);
        return body;
    }

    public int wind(int v) {
        if (!hasIsland()) {
            return refuse(NO_SUCH);
        }
        if (v < 0 || v > 9) {
            return refuse(OUT_OF_BOUNDS);
        }
        int ahead = now.wind;
        if (v == ahead) {
            return refuse(NOT_SO);
        }
        past.keep(now);
        now.wind = v;
        return ahead;
    }

    public int give(int n) {
        if (!hasIsland()) {
            return refuse(NO_SUCH);
        }
        if (n < 1 || n > 50) {
            return refuse(OUT_OF_BOUNDS);
        }
        if (now.coins + n > COINS_AT_MOST) {
            return refuse(NO_ROOM);
        }
        past.keep(now);
        now.coins += n;
        return now.coins;
    }

    public int years(int n, long seed) {
        if (!hasIsland() || n < 1 || n > HOURS_AT_ONCE || now.hour + n > LAST_HOUR) {
            return NONE;
        }
        drawn = seed;
        for (int i = 0; i < n; i++) {
            past.keep(now);
            drawWhatIsAhead();
            island.weigh(now);
            letAnHourPass();
        }
        return now.hour;
    }

    public int undo() {
        return past.takeBack(now) ? past.kept : NONE;
    }

    public int image() {
        if (!hasIsland()) {
            return NONE;
        }
        picture.copyAll(now);
        pictured = true;
        return now.hour;
    }

    public int back() {
        if (!hasIsland() || !pictured) {
            return NONE;
        }
        now.copyAll(picture);
        past.clear();
        return now.hour;
    }

    /** The masses of now must have been weighed: by them it is told who is forgotten. */
    private void letAnHourPass() {
        now.passHour();
        island.weigh(now);
        now.note(island.floating(now), island.sinking(now));
    }

    private void drawWhatIsAhead() {
        now.wind = draw(10);
        if (draw(10) >= memoryNow) {
            return;
        }
        int who = draw(island.persons);
        int whom = draw(island.persons);
        int kind = draw(KINDS);
        int strength = draw(STRONGEST) + 1;
        if (who != whom && island.takes(who, kind)) {
            now.lay(who, now.emptyPlace(who), whom, kind, strength);
        }
    }

    private int draw(int sides) {
        drawn = drawn * 6364136223846793005L + 1442695040888963407L;
        return sides < 1 ? 0 : (int) ((drawn >>> 33) % sides);
    }

    private int refuse(int why) {
        put(refusals, why, at(refusals, why) + 1);
        return NONE;
    }

    private boolean hasIsland() {
        return island.persons > 0;
    }

    // ---- apart, from as it is now ----

    public int behind(int person, int n) {
        if (!island.has(person) || n < 0 || n > HOURS_AT_ONCE) {
            return NONE;
        }
        aside.copyMinds(now);
        island.weigh(aside);
        for (int i = 0; i < n; i++) {
            aside.passHour();
            island.weigh(aside);
        }
        return asTold(aside.weight(person));
    }

    public int floatsIn(int person) {
        if (!island.has(person)) {
            return NONE;
        }
        aside.copyMinds(now);
        for (int hour = 0; hour <= 99; hour++) {
            island.weigh(aside);
            if (aside.floats(person)) {
                return hour;
            }
            aside.passHour();
        }
        return NONE;
    }

    public int load(int some) {
        if (!hasIsland() || some < 0 || some >= 1 << island.persons) {
            return NONE;
        }
        allStandAtTheBridge();
        return asTold(bridge.loadOf(some));
    }

    public int together() {
        if (!hasIsland()) {
            return NONE;
        }
        allStandAtTheBridge();
        return bridge.mostAtOnce(island.bridge);
    }

    public int goings() {
        if (!hasIsland()) {
            return NONE;
        }
        allStandAtTheBridge();
        return bridge.fewestGoings(island.bridge);
    }

    private void allStandAtTheBridge() {
        island.weigh(now);
        bridge.stand(now, island.persons);
    }

    public int held(int person) {
        if (!island.has(person)) {
            return NONE;
        }
        island.weigh(now);
        if (!now.floats(person)) {
            return 0;
        }
        int able = island.ableToThinkPolitely(now, person);
        aside.copyMinds(now);
        for (int mind = 0; mind < PERSONS_AT_MOST; mind++) {
            if ((able >> mind & 1) == 1) {
                aside.lay(mind, now.emptyPlace(mind), person, POLITE, 5);
            }
        }
        island.weigh(aside);
        int best = NONE;
        for (int some = 1; some < 1 << PERSONS_AT_MOST; some++) {
            boolean fewer = best == NONE || Integer.bitCount(some) < Integer.bitCount(best);
            if ((some & ~able) == 0 && fewer && isHeldBy(some, able, person)) {
                best = some;
            }
        }
        return best;
    }

    /** Of all who are able to have the THOUGHT, whose MASSES lie aside, these alone have it. */
    private boolean isHeldBy(int some, int able, int person) {
        for (int mind = 0; mind < PERSONS_AT_MOST; mind++) {
            if ((able >> mind & 1) == 1) {
                int i = mind * PLACES_OF_A_MIND + now.emptyPlace(mind);
                put(aside.whom, i, (some >> mind & 1) == 1 ? person : NONE);
            }
        }
        return !aside.floats(person);
    }

    public int eased(int person) {
        if (!island.has(person)) {
            return NONE;
        }
        aside.copyMinds(now);
        island.weigh(aside);
        for (int given = 0; given < ALL_PLACES; given++) {
            int heaviest = aside.heaviestThoughtOf(person);
            if (heaviest == NONE || !island.sinks(aside, person)) {
                return given;
            }
            put(aside.whom, heaviest, NONE);
        }
        return ALL_PLACES;
    }

    public int odds(int person, int n, int chance) {
        if (!island.has(person) || n < 0 || n > ODDS_HOURS || chance < 0 || chance > 100) {
            return NONE;
        }
        return (int) tunes.partsThatFloat(now, island, person, n, chance);
    }

    public int shares(int person, int c) {
        if (!island.has(person) || c < 0 || c > 999) {
            return NONE;
        }
        island.weigh(now);
        long all = 0;
        for (int i = 0; i < island.persons; i++) {
            all += asTold(now.weight(i));
        }
        long part = (long) c * asTold(now.weight(person));
        return all == 0 ? 0 : (int) (part / all);
    }

    public int most(int what) {
        if (!hasIsland()) {
            return HIDDEN;
        }
        island.weigh(now);
        switch (what) {
            case 0: return heaviest();
            case 1: return lightest();
            case 2: return deepest();
            case 3: return mostThoughtOf();
            case 4: return island.floating(now);
            case 5: return island.sinking(now);
            case 6: return nobodys();
            case 7: return now.thoughtCount();
            case 8: return fullMinds();
            case 9: return now.oldestAge();
            case 10: return pairs();
            default: return HIDDEN;
        }
    }

    private int heaviest() {
        int best = 0;
        for (int i = 1; i < island.persons; i++) {
            best = now.weight(i) > now.weight(best) ? i : best;
        }
        return best;
    }

    private int lightest() {
        int best = 0;
        for (int i = 1; i < island.persons; i++) {
            best = now.weight(i) < now.weight(best) ? i : best;
        }
        return best;
    }

    private int deepest() {
        int best = 0;
        for (int i = 1; i < island.persons; i++) {
            best = at(island.deep, i) > at(island.deep, best) ? i : best;
        }
        return best;
    }

    private int mostThoughtOf() {
        int best = 0;
        for (int i = 1; i < island.persons; i++) {
            best = now.thoughtsOf(i) > now.thoughtsOf(best) ? i : best;
        }
        return best;
    }

    private int nobodys() {
        int bits = 0;
        for (int i = 0; i < island.persons; i++) {
            bits |= now.thoughtsOf(i) == 0 ? 1 << i : 0;
        }
        return bits;
    }

    private int fullMinds() {
        int bits = 0;
        for (int i = 0; i < island.persons; i++) {
            bits |= now.emptyPlace(i) == NONE ? 1 << i : 0;
        }
        return bits;
    }

    private int pairs() {
        int pairs = 0;
        for (int i = 0; i < island.persons; i++) {
            for (int j = i + 1; j < island.persons; j++) {
                pairs += now.thinksOf(i, j) && now.thinksOf(j, i) ? 1 : 0;
            }
        }
        return pairs;
    }

    // ---- which THOUGHT it was ----

    public int seen(int person, int n, int v, boolean more) {
        if (!island.has(person) || n < 0 || n > SEEN_HOURS || v < 0 || v > 9999) {
            return NONE;
        }
        return riddle.note(person, n, v, more) ? riddle.seenCount : NONE;
    }

    public int fits(int i) {
        if (!hasIsland() || i < NONE) {
            return NONE;
        }
        riddle.solve(island, told);
        if (i == NONE) {
            return riddle.fitCount;
        }
        return i < riddle.fitCount ? at(riddle.fitting, i) : NONE;
    }

    public int ask(int person) {
        if (!island.has(person)) {
            return NONE;
        }
        riddle.solve(island, told);
        return riddle.fitCount == 0 ? NONE : riddle.bestHoursToAsk(told, person);
    }

    // ---- games of two ----

    public int game(int one, int other, int x, int y, int what) {
        if (!areTwo(one, other) || x < 0 || x > 2 || y < 0 || y > 2 || what < 0 || what > 1) {
            return HIDDEN;
        }
        play(one, other, x, y);
        return what == 0 ? gainOf(one, other) : gainOf(other, one);
    }

    public int rests(int one, int other, int i) {
        if (!areTwo(one, other) || i < NONE) {
            return NONE;
        }
        for (int x = 0; x <= 2; x++) {
            for (int y = 0; y <= 2; y++) {
                play(one, other, x, y);
                put(gains, 6 * x + 2 * y, gainOf(one, other));
                put(gains, 6 * x + 2 * y + 1, gainOf(other, one));
            }
        }
        return countOrFind(i);
    }

    private int countOrFind(int i) {
        int found = 0;
        for (int x = 0; x <= 2; x++) {
            for (int y = 0; y <= 2; y++) {
                if (isRest(x, y)) {
                    if (found == i) {
                        return 10 * x + y;
                    }
                    found++;
                }
            }
        }
        return i == NONE ? found : NONE;
    }

    private boolean areTwo(int one, int other) {
        return island.has(one) && island.has(other) && one != other;
    }

    private void play(int one, int other, int x, int y) {
        aside.copyMinds(now);
        move(one, other, x);
        move(other, one, y);
        island.weigh(aside);
    }

    private void move(int mover, int whom, int x) {
        if (x == 1 && island.takes(mover, POLITE)) {
            aside.lay(mover, aside.emptyPlace(mover), whom, POLITE, STRONGEST);
        } else if (x == 2) {
            aside.giveUpAll(mover, whom);
        }
    }

    private int gainOf(int mine, int others) {
        int gain = heftOf(aside.weight(mine)) - heftOf(aside.weight(others));
        return aside.floats(others) ? gain + 2 : gain;
    }

    private boolean isRest(int x, int y) {
        for (int z = 0; z <= 2; z++) {
            if (at(gains, 6 * z + 2 * y) > at(gains, 6 * x + 2 * y)) {
                return false;
            }
            if (at(gains, 6 * x + 2 * z + 1) > at(gains, 6 * x + 2 * y + 1)) {
                return false;
            }
        }
        return true;
    }

    // ---- numbers and rows ----

    private static int at(int[] row, int i) {
        return row != null && i >= 0 && i < row.length ? row[i] : 0;
    }

    private static void put(int[] row, int i, int v) {
        if (row != null && i >= 0 && i < row.length) {
            row[i] = v;
        }
    }

    private static long longAt(long[] row, int i) {
        return row != null && i >= 0 && i < row.length ? row[i] : 0;
    }

    private static void putLong(long[] row, int i, long v) {
        if (row != null && i >= 0 && i < row.length) {
            row[i] = v;
        }
    }

    private static State stateAt(State[] row, int i) {
        return row != null && i >= 0 && i < row.length ? row[i] : null;
    }

    private static void copyRow(int[] from, int[] to) {
        if (from == null || to == null) {
            return;
        }
        for (int i = 0; i < from.length && i < to.length; i++) {
            to[i] = from[i];
        }
    }

    private static boolean isKind(int kind) {
        return kind >= 0 && kind < KINDS;
    }

    private static boolean isPlace(int place) {
        return place >= 0 && place < PLACES_OF_A_MIND;
    }

    private static boolean goesInto(int mind, int kind) {
        return mind == 0 || (mind == 2) == (kind == TUNE);
    }

    private static int signsOf(int number) {
        int signs = 0;
        for (int shift = 24; shift >= 0; shift -= 8) {
            signs += (number >>> shift & 255) != 0 ? 1 : 0;
        }
        return signs;
    }

    private static int within(long v, int low, int high) {
        return v < low ? low : v > high ? high : (int) v;
    }

    private static int asTold(long weight) {
        return within(weight, 0, WEIGHT_TOLD_AT_MOST);
    }

    private static long rounded(long number) {
        int cut = 0;
        while (cut < 40 && number >> cut >= EXACT_NUMBERS) {
            cut++;
        }
        if (cut == 0) {
            return number;
        }
        long unit = 1L << cut;
        long kept = number >> cut;
        long rest = number & (unit - 1);
        long half = unit >> 1;
        boolean up = rest > half || rest == half && (kept & 1) == 1;
        return (up ? kept + 1 : kept) << cut;
    }

    private static int heftOf(long weight) {
        int heft = 0;
        for (int step = 32; step > 0; step >>= 1) {
            if (weight >> (heft + step) > 0) {
                heft += step;
            }
        }
        return heft;
    }

    private static int grainOf(long weight) {
        int heft = heftOf(weight);
        long digits = heft > GRAIN_DIGITS ? weight >> (heft - GRAIN_DIGITS) : weight << (GRAIN_DIGITS - heft);
        return (int) (digits & ((1L << GRAIN_DIGITS) - 1));
    }

    /** The bytes that were fed, and how far they are read: blanks are passed over ahead of each sign. */
    private static final class Tape {
        private final int[] bytes = new int[BYTES_AT_MOST];
        private int length;
        private int place;
        private int wrongAt = NONE;

        void append(int number) {
            for (int shift = 24; shift >= 0; shift -= 8) {
                int sign = number >>> shift & 255;
                if (sign != 0 && length < BYTES_AT_MOST) {
                    put(bytes, length, sign);
                    length++;
                }
            }
        }

        void rewind() {
            place = 0;
            wrongAt = NONE;
        }

        int next() {
            while (place < length && at(bytes, place) == ' ') {
                place++;
            }
            return place < length ? at(bytes, place) : END_OF_TEXT;
        }

        void step() {
            if (place < length) {
                place++;
            }
        }

        boolean take(int sign) {
            if (next() != sign) {
                return false;
            }
            step();
            return true;
        }

        boolean fail() {
            return failAt(place);
        }

        boolean failAt(int where) {
            wrongAt = where;
            return false;
        }

        /** A number of so many digits at most, or NONE, where it is wrong. */
        int number(int digits) {
            if (!isDigit(next())) {
                fail();
                return NONE;
            }
            int number = 0;
            for (int read = 0; place < length && isDigit(at(bytes, place)); read++) {
                if (read == digits) {
                    fail();
                    return NONE;
                }
                number = number * 10 + at(bytes, place) - '0';
                place++;
            }
            return number;
        }

        static boolean isDigit(int sign) {
            return sign >= '0' && sign <= '9';
        }
    }

    /** Reads the TAPE as an ISLAND and keeps what it tells. */
    private static final class IslandReader {
        private static final int RULES = 0;
        private static final int PERSON = 1;
        private static final int THOUGHT = 2;
        private static final int ITEMS = 4;
        // a row of four ITEMS for each sort of CLAUSE; no byte of a TAPE is 0, so that a PERSON has no fourth one
        private static final int[] LETTERS = {'w', 'g', 'b', 'k', 'b', 'd', 'm', 0, 'a', 'o', 'k', 's'};
        private static final int[] LOWEST = {0, 1, 1, 0, 1, 1, 0, 0, 0, 0, 0, 1};
        private static final int[] HIGHEST = {9, 99, 99, 99, 99, 99, 2, 0, 7, 7, 2, 9};
        private static final int[] UNTOLD = {3, 40, 60, 20, 9, 10, 0, 0, 0, 1, 0, 3};

        private final int[] items = new int[ITEMS];
        private final int[] rules = new int[ITEMS];
        private boolean rulesTold;
        private int persons;
        private final int[] body = new int[PERSONS_AT_MOST];
        private final int[] deep = new int[PERSONS_AT_MOST];
        private final int[] mind = new int[PERSONS_AT_MOST];
        private int thoughts;
        private final int[] who = new int[THOUGHTS_TOLD_AT_MOST];
        private final int[] whom = new int[THOUGHTS_TOLD_AT_MOST];
        private final int[] kind = new int[THOUGHTS_TOLD_AT_MOST];
        private final int[] strength = new int[THOUGHTS_TOLD_AT_MOST];

        boolean read(Tape tape) {
            persons = 0;
            thoughts = 0;
            rulesTold = false;
            layOutUntold(RULES);
            copyRow(items, rules);
            tape.rewind();
            for (int clause = 0; clause <= BYTES_AT_MOST; clause++) {
                if (!readClause(tape)) {
                    return false;
                }
                if (tape.next() == END_OF_TEXT) {
                    return holdsTogether() || tape.fail();
                }
                if (!tape.take(';')) {
                    return tape.fail();
                }
            }
            return tape.fail();
        }

        private boolean readClause(Tape tape) {
            int sort = sortThatMayBegin(tape.next());
            if (sort == NONE) {
                return tape.fail();
            }
            tape.step();
            layOutUntold(sort);
            if (!readItems(tape, sort)) {
                return false;
            }
            keep(sort);
            return true;
        }

        private int sortThatMayBegin(int sign) {
            switch (sign) {
                case 's': return rulesTold ? NONE : RULES;
                case 'p': return persons < PERSONS_AT_MOST ? PERSON : NONE;
                case 't': return thoughts < THOUGHTS_TOLD_AT_MOST ? THOUGHT : NONE;
                default: return NONE;
            }
        }

        private void layOutUntold(int sort) {
            for (int i = 0; i < ITEMS; i++) {
                put(items, i, at(UNTOLD, sort * ITEMS + i));
            }
        }

        private boolean readItems(Tape tape, int sort) {
            int there = 0;
            for (int read = 0; read <= ITEMS; read++) {
                int sign = tape.next();
                if (sign == END_OF_TEXT || sign == ';') {
                    return true;
                }
                int item = itemOf(sort, sign);
                if (item == NONE || (there >> item & 1) == 1) {
                    return tape.fail();
                }
                there |= 1 << item;
                tape.step();
                int number = tape.number(2);
                if (number == NONE) {
                    return false;
                }
                if (number < at(LOWEST, sort * ITEMS + item) || number > at(HIGHEST, sort * ITEMS + item)) {
                    return tape.failAt(tape.place - 1);
                }
                put(items, item, number);
            }
            return tape.fail();
        }

        private int itemOf(int sort, int sign) {
            for (int i = 0; i < ITEMS; i++) {
                if (at(LETTERS, sort * ITEMS + i) == sign) {
                    return i;
                }
            }
            return NONE;
        }

        private void keep(int sort) {
            if (sort == RULES) {
                rulesTold = true;
                copyRow(items, rules);
            } else if (sort == PERSON) {
                put(body, persons, at(items, 0));
                put(deep, persons, at(items, 1));
                put(mind, persons, at(items, 2));
                persons++;
            } else {
                put(who, thoughts, at(items, 0));
                put(whom, thoughts, at(items, 1));
                put(kind, thoughts, at(items, 2));
                put(strength, thoughts, at(items, 3));
                thoughts++;
            }
        }

        private boolean holdsTogether() {
            if (persons < 2) {
                return false;
            }
            for (int i = 0; i < thoughts; i++) {
                int thinker = at(who, i);
                if (thinker >= persons || at(whom, i) >= persons || thinker == at(whom, i)) {
                    return false;
                }
                if (!goesInto(at(mind, thinker), at(kind, i)) || toldAhead(i) >= PLACES_OF_A_MIND) {
                    return false;
                }
            }
            return true;
        }

        /** How many THOUGHTS of the same MIND are told ahead of the i-th: so many places of it are taken by then. */
        private int toldAhead(int i) {
            int ahead = 0;
            for (int j = 0; j < i; j++) {
                ahead += at(who, j) == at(who, i) ? 1 : 0;
            }
            return ahead;
        }
    }

    /** Reads the TAPE as a LAW and drafts it, its signs put behind what they join. */
    private static final class LawReader {
        private final Law draft = new Law();

        boolean read(Tape tape) {
            draft.clear();
            tape.rewind();
            for (int clause = 0; clause <= BYTES_AT_MOST; clause++) {
                if (!readClause(tape)) {
                    return false;
                }
                if (tape.next() == END_OF_TEXT) {
                    return true;
                }
                if (!tape.take(';')) {
                    return tape.fail();
                }
            }
            return tape.fail();
        }

        private boolean readClause(Tape tape) {
            if (!tape.take('y') || !tape.take(':')) {
                return tape.fail();
            }
            draft.beginClause();
            int sign = tape.next();
            boolean begun = sign != '!' && sign != '(';
            if (begun) {
                if (!readSum(tape, 0)) {
                    return false;
                }
                if (!isComparison(tape.next())) {
                    draft.endClause();
                    return true;
                }
            }
            if (!readCondition(tape, 0, begun)) {
                return false;
            }
            if (!tape.take('?')) {
                return tape.fail();
            }
            draft.beginSum();
            if (!readSum(tape, 0)) {
                return false;
            }
            draft.endClause();
            return true;
        }

        /** Begun: its first SUM is read already, as it could have been the SUM of the CLAUSE. */
        private boolean readCondition(Tape tape, int depth, boolean begun) {
            if (!readTruth(tape, depth, begun)) {
                return false;
            }
            for (int i = 0; i < BYTES_AT_MOST && tape.take('|'); i++) {
                if (!readTruth(tape, depth, false)) {
                    return false;
                }
                draft.add('|', 0);
            }
            return true;
        }

        private boolean readTruth(Tape tape, int depth, boolean begun) {
            if (!readUnit(tape, depth, begun)) {
                return false;
            }
            for (int i = 0; i < BYTES_AT_MOST && tape.take('&'); i++) {
                if (!readUnit(tape, depth, false)) {
                    return false;
                }
                draft.add('&', 0);
            }
            return true;
        }

        private boolean readUnit(Tape tape, int depth, boolean begun) {
            if (!begun) {
                int sign = tape.next();
                if (sign == '!' || sign == '(') {
                    return readNested(tape, depth, sign);
                }
                if (!readSum(tape, depth)) {
                    return false;
                }
            }
            int comparison = tape.next();
            if (!isComparison(comparison)) {
                return tape.fail();
            }
            tape.step();
            if (!readSum(tape, depth)) {
                return false;
            }
            draft.add(comparison, 0);
            return true;
        }

        private boolean readNested(Tape tape, int depth, int sign) {
            if (depth >= DEEPEST_BRACKET) {
                return tape.fail();
            }
            tape.step();
            if (sign == '!') {
                if (!readUnit(tape, depth + 1, false)) {
                    return false;
                }
                draft.add('!', 0);
                return true;
            }
            if (!readCondition(tape, depth + 1, false)) {
                return false;
            }
            return tape.take(')') || tape.fail();
        }

        private boolean readSum(Tape tape, int depth) {
            if (!readTerm(tape, depth)) {
                return false;
            }
            for (int i = 0; i < BYTES_AT_MOST; i++) {
                int sign = tape.next();
                if (sign != '+' && sign != '-') {
                    return true;
                }
                tape.step();
                if (!readTerm(tape, depth)) {
                    return false;
                }
                draft.add(sign, 0);
            }
            return true;
        }

        private boolean readTerm(Tape tape, int depth) {
            if (!readAtom(tape, depth)) {
                return false;
            }
            for (int i = 0; i < BYTES_AT_MOST; i++) {
                int sign = tape.next();
                if (sign != '*' && sign != '/') {
                    return true;
                }
                tape.step();
                if (!readAtom(tape, depth)) {
                    return false;
                }
                draft.add(sign, 0);
            }
            return true;
        }

        private boolean readAtom(Tape tape, int depth) {
            int sign = tape.next();
            if (sign == '[' && depth < DEEPEST_BRACKET) {
                tape.step();
                if (!readSum(tape, depth + 1)) {
                    return false;
                }
                return tape.take(']') || tape.fail();
            }
            int letter = letterOf(sign);
            if (letter != NONE) {
                tape.step();
                draft.add(Law.LETTER, letter);
                return true;
            }
            int number = tape.number(4);
            if (number == NONE) {
                return false;
            }
            draft.add(Law.NUMBER, number);
            return true;
        }

        private static boolean isComparison(int sign) {
            return sign == '=' || sign == '<' || sign == '>';
        }

        private static int letterOf(int sign) {
            switch (sign) {
                case 's': return Law.STRENGTH;
                case 'k': return Law.KIND;
                case 'a': return Law.AGE;
                case 'd': return Law.DEEP;
                case 'w': return Law.WIND;
                case 'h': return Law.HOUR_OF_DAY;
                default: return NONE;
            }
        }
    }

    /** How heavy a THOUGHT is: CLAUSES one behind the other, each a CONDITION (perhaps of no sign) and a SUM. */
    private static final class Law {
        private static final int NUMBER = 'n';
        private static final int LETTER = 'l';
        private static final int STRENGTH = 0;
        private static final int KIND = 1;
        private static final int AGE = 2;
        private static final int DEEP = 3;
        private static final int WIND = 4;
        private static final int HOUR_OF_DAY = 5;
        private static final int LETTERS = 6;
        // a CLAUSE takes four bytes of the TAPE with its ;
        private static final int CLAUSES_AT_MOST = 64;
        private static final int PILE = 64;

        private final int[] signs = new int[BYTES_AT_MOST];
        private final int[] values = new int[BYTES_AT_MOST];
        private int length;
        private final int[] conditionFrom = new int[CLAUSES_AT_MOST];
        private final int[] sumFrom = new int[CLAUSES_AT_MOST];
        private final int[] sumTo = new int[CLAUSES_AT_MOST];
        private int clauses;
        private final int[] pile = new int[PILE];

        void clear() {
            length = 0;
            clauses = 0;
        }

        void beginClause() {
            put(conditionFrom, clauses, length);
            put(sumFrom, clauses, length);
        }

        void beginSum() {
            put(sumFrom, clauses, length);
        }

        void endClause() {
            put(sumTo, clauses, length);
            clauses++;
        }

        void add(int sign, int value) {
            put(signs, length, sign);
            put(values, length, value);
            length++;
        }

        void copy(Law from) {
            copyRow(from.signs, signs);
            copyRow(from.values, values);
            length = from.length;
            copyRow(from.conditionFrom, conditionFrom);
            copyRow(from.sumFrom, sumFrom);
            copyRow(from.sumTo, sumTo);
            clauses = from.clauses;
        }

        int worth(int[] letters) {
            for (int i = 0; i < clauses; i++) {
                int from = at(conditionFrom, i);
                int sum = at(sumFrom, i);
                if (from == sum || reckon(from, sum, letters) != 0) {
                    return reckon(sum, at(sumTo, i), letters);
                }
            }
            return 0;
        }

        private int reckon(int from, int to, int[] letters) {
            int top = NONE;
            for (int i = from; i < to; i++) {
                int sign = at(signs, i);
                if (sign == NUMBER) {
                    top++;
                    put(pile, top, at(values, i));
                } else if (sign == LETTER) {
                    top++;
                    put(pile, top, at(letters, at(values, i)));
                } else if (sign == '!') {
                    put(pile, top, at(pile, top) == 0 ? 1 : 0);
                } else {
                    top--;
                    long joined = joined(sign, at(pile, top), at(pile, top + 1));
                    put(pile, top, within(joined, -NUMBER_LIMIT, NUMBER_LIMIT));
                }
            }
            return at(pile, top);
        }

        private static long joined(int sign, long left, long right) {
            switch (sign) {
                case '+': return left + right;
                case '-': return left - right;
                case '*': return left * right;
                case '/': return right == 0 ? 0 : left / right;
                case '=': return left == right ? 1 : 0;
                case '<': return left < right ? 1 : 0;
                case '>': return left > right ? 1 : 0;
                case '&': return left & right;
                default: return left | right;
            }
        }
    }

    /** What an IMAGE keeps and an ACT changes; and the MASS of each THOUGHT as it was weighed last. */
    private static final class State {
        private final int[] whom = new int[ALL_PLACES];
        private final int[] kind = new int[ALL_PLACES];
        private final int[] strength = new int[ALL_PLACES];
        private final int[] age = new int[ALL_PLACES];
        private final int[] mass = new int[ALL_PLACES];
        private final int[] body = new int[PERSONS_AT_MOST];
        private final int[] log = new int[LOG_ROWS];
        private int wind;
        private int coins;
        private int hour;

        void settle(IslandReader from) {
            for (int i = 0; i < ALL_PLACES; i++) {
                put(whom, i, NONE);
            }
            for (int i = 0; i < from.thoughts; i++) {
                int place = from.toldAhead(i);
                lay(at(from.who, i), place, at(from.whom, i), at(from.kind, i), at(from.strength, i));
            }
            copyRow(from.body, body);
            wind = at(from.rules, 0);
            coins = at(from.rules, 3);
            hour = 0;
        }

        void copyAll(State from) {
            copyMinds(from);
            copyRow(from.log, log);
        }

        void copyMinds(State from) {
            copyRow(from.whom, whom);
            copyRow(from.kind, kind);
            copyRow(from.strength, strength);
            copyRow(from.age, age);
            copyRow(from.mass, mass);
            copyRow(from.body, body);
            wind = from.wind;
            coins = from.coins;
            hour = from.hour;
        }

        int emptyPlace(int mind) {
            for (int place = 0; place < PLACES_OF_A_MIND; place++) {
                if (at(whom, mind * PLACES_OF_A_MIND + place) == NONE) {
                    return place;
                }
            }
            return NONE;
        }

        void lay(int mind, int place, int of, int sort, int strong) {
            if (!isPlace(place)) {
                return;
            }
            int i = mind * PLACES_OF_A_MIND + place;
            put(whom, i, of);
            put(kind, i, sort);
            put(strength, i, strong);
            put(age, i, 0);
        }

        void giveUpAll(int mind, int of) {
            for (int place = 0; place < PLACES_OF_A_MIND; place++) {
                if (at(whom, mind * PLACES_OF_A_MIND + place) == of) {
                    put(whom, mind * PLACES_OF_A_MIND + place, NONE);
                }
            }
        }

        void renewTunesOf(int person) {
            for (int i = 0; i < ALL_PLACES; i++) {
                if (at(whom, i) == person && at(kind, i) == TUNE) {
                    put(age, i, 0);
                }
            }
        }

        /** An HOUR but for its LOG, by the masses that were weighed ahead of it. */
        void passHour() {
            for (int i = 0; i < ALL_PLACES; i++) {
                if (at(mass, i) == 0) {
                    put(whom, i, NONE);
                } else if (at(age, i) < OLDEST_AGE) {
                    put(age, i, at(age, i) + 1);
                }
            }
            hour++;
        }

        /** Each HOUR puts one row into the LOG, so that the HOUR tells where it lies and how many there are. */
        void note(int floating, int sinking) {
            put(log, hour % LOG_ROWS, floating | sinking << 8 | thoughtCount() << 16);
        }

        int logLength() {
            return hour < LOG_ROWS ? hour : LOG_ROWS;
        }

        int logged(int i, int what) {
            return at(log, (hour - i) % LOG_ROWS) >> 8 * what & 255;
        }

        long weight(int person) {
            long sum = (long) WEIGHT_OF_BODY * at(body, person);
            for (int i = 0; i < ALL_PLACES; i++) {
                if (at(whom, i) == person) {
                    sum = rounded(sum + at(mass, i));
                }
            }
            return sum;
        }

        boolean floats(int person) {
            return weight(person) < (long) LIFT_OF_WIND * wind;
        }

        int thoughtCount() {
            int count = 0;
            for (int i = 0; i < ALL_PLACES; i++) {
                count += at(whom, i) == NONE ? 0 : 1;
            }
            return count;
        }

        int thoughtsOf(int person) {
            int count = 0;
            for (int i = 0; i < ALL_PLACES; i++) {
                count += at(whom, i) == person ? 1 : 0;
            }
            return count;
        }

        boolean thinksOf(int mind, int person) {
            for (int place = 0; place < PLACES_OF_A_MIND; place++) {
                if (at(whom, mind * PLACES_OF_A_MIND + place) == person) {
                    return true;
                }
            }
            return false;
        }

        int heaviestThoughtOf(int person) {
            int best = NONE;
            for (int i = 0; i < ALL_PLACES; i++) {
                if (at(whom, i) == person && (best == NONE || at(mass, i) > at(mass, best))) {
                    best = i;
                }
            }
            return best;
        }

        int oldestAge() {
            int oldest = NONE;
            for (int i = 0; i < ALL_PLACES; i++) {
                if (at(whom, i) != NONE && at(age, i) > oldest) {
                    oldest = at(age, i);
                }
            }
            return oldest;
        }
    }

    /** What stays as it was told, and by which LAW THOUGHTS are weighed (null: by none). */
    private static final class Island {
        private int persons;
        private int ground;
        private int bridge;
        private final int[] deep = new int[PERSONS_AT_MOST];
        private final int[] mind = new int[PERSONS_AT_MOST];
        private Law law;
        private final int[] letters = new int[Law.LETTERS];

        void settle(IslandReader from) {
            persons = from.persons;
            ground = at(from.rules, 1);
            bridge = at(from.rules, 2);
            copyRow(from.deep, deep);
            copyRow(from.mind, mind);
        }

        boolean has(int person) {
            return person >= 0 && person < persons;
        }

        boolean takes(int person, int kind) {
            return goesInto(at(mind, person), kind);
        }

        void weigh(State state) {
            for (int i = 0; i < ALL_PLACES; i++) {
                int mass = 0;
                if (at(state.whom, i) != NONE) {
                    lookUp(at(state.age, i), state.wind, state.hour);
                    mass = massOf(i / PLACES_OF_A_MIND, at(state.kind, i), at(state.strength, i));
                }
                put(state.mass, i, mass);
            }
        }

        void lookUp(int age, int wind, int hour) {
            put(letters, Law.AGE, age);
            put(letters, Law.WIND, wind);
            put(letters, Law.HOUR_OF_DAY, hour % 24);
        }

        /** At the AGE, in the WIND and at the HOUR that were looked up last. */
        int massOf(int thinker, int kind, int strength) {
            int depth = at(deep, thinker);
            int worth;
            Law holding = law;
            if (holding == null) {
                int shares = at(letters, Law.AGE) + 1;
                worth = shares == 0 ? 0 : WORTH_OF_STRENGTH * strength / shares;
            } else {
                put(letters, Law.STRENGTH, strength);
                put(letters, Law.KIND, kind);
                put(letters, Law.DEEP, depth);
                worth = holding.worth(letters);
            }
            return (int) rounded((long) within(worth, 0, WORTH_LIMIT) * depth);
        }

        boolean sinks(State state, int person) {
            return state.weight(person) > (long) BEARING * ground;
        }

        int floating(State state) {
            int bits = 0;
            for (int i = 0; i < persons; i++) {
                bits |= state.floats(i) ? 1 << i : 0;
            }
            return bits;
        }

        int sinking(State state) {
            int bits = 0;
            for (int i = 0; i < persons; i++) {
                bits |= sinks(state, i) ? 1 << i : 0;
            }
            return bits;
        }

        int ableToThinkPolitely(State state, int person) {
            int bits = 0;
            for (int i = 0; i < persons; i++) {
                boolean able = i != person && takes(i, POLITE) && state.emptyPlace(i) != NONE;
                bits |= able ? 1 << i : 0;
            }
            return bits;
        }
    }

    /** How it was ahead of each of the latest ACTS, in a ring. */
    private static final class Past {
        private final State[] states = new State[ACTS_KEPT];
        private int next;
        private int kept;

        Past() {
            for (int i = 0; i < states.length; i++) {
                states[i] = new State();
            }
        }

        void clear() {
            kept = 0;
        }

        void keep(State now) {
            State free = stateAt(states, next);
            if (free == null) {
                return;
            }
            free.copyAll(now);
            next = (next + 1) % ACTS_KEPT;
            kept = kept < ACTS_KEPT ? kept + 1 : ACTS_KEPT;
        }

        boolean takeBack(State now) {
            int latest = (next + ACTS_KEPT - 1) % ACTS_KEPT;
            State ahead = stateAt(states, latest);
            if (kept == 0 || ahead == null) {
                return false;
            }
            now.copyAll(ahead);
            next = latest;
            kept--;
            return true;
        }
    }

    /** Who crosses with whom: the WEIGHTS of those who stand at the bridge. */
    private static final class Bridge {
        private static final int SETS = 1 << PERSONS_AT_MOST;

        private final long[] weights = new long[PERSONS_AT_MOST];
        private int persons;
        private final boolean[] borne = new boolean[SETS];
        private final int[] fewest = new int[SETS];

        void stand(State state, int howMany) {
            persons = howMany < PERSONS_AT_MOST ? howMany : PERSONS_AT_MOST;
            for (int i = 0; i < persons; i++) {
                putLong(weights, i, state.weight(i));
            }
        }

        long loadOf(int some) {
            long sum = 0;
            for (int i = 0; i < persons; i++) {
                if ((some >> i & 1) == 1) {
                    sum = rounded(sum + longAt(weights, i));
                }
            }
            return sum;
        }

        private boolean bears(int strength, int some) {
            return loadOf(some) <= (long) BEARING * strength;
        }

        int mostAtOnce(int strength) {
            int best = 0;
            for (int some = 1; some < 1 << persons; some++) {
                if (Integer.bitCount(some) > Integer.bitCount(best) && bears(strength, some)) {
                    best = some;
                }
            }
            return best;
        }

        int fewestGoings(int strength) {
            for (int i = 0; i < persons; i++) {
                if (!bears(strength, 1 << i)) {
                    return NONE;
                }
            }
            int sets = 1 << persons;
            for (int some = 1; some < sets && some < borne.length; some++) {
                borne[some] = bears(strength, some);
            }
            put(fewest, 0, 0);
            for (int all = 1; all < sets; all++) {
                put(fewest, all, fewestFor(all));
            }
            return at(fewest, sets - 1);
        }

        private int fewestFor(int all) {
            int best = PERSONS_AT_MOST;
            int some = all;
            for (int left = SETS; left > 0 && some > 0; left--) {
                if (some < borne.length && borne[some] && at(fewest, all ^ some) + 1 < best) {
                    best = at(fewest, all ^ some) + 1;
                }
                some = some - 1 & all;
            }
            return best;
        }
    }

    /**
     * Which THOUGHT more it was. MASS hangs on nothing but the THOUGHT itself, its MIND and the weather: so that of
     * each told one and of each possible one is weighed once for each HOUR, and WEIGHTS are summed up from these.
     */
    private static final class Riddle {
        private static final int ROWS = SEEN_HOURS + 1;
        private static final int POSSIBLE_IN_A_MIND = KINDS * STRONGEST;
        private static final int POSSIBLE = PERSONS_AT_MOST * (PERSONS_AT_MOST - 1) * POSSIBLE_IN_A_MIND;
        private static final int HEFTS = 64;

        private final int[] seenPerson = new int[SEEN_AT_MOST];
        private final int[] seenHours = new int[SEEN_AT_MOST];
        private final int[] seenThousands = new int[SEEN_AT_MOST];
        private final int[] seenMore = new int[SEEN_AT_MOST];
        private int seenCount;
        private boolean solved;
        private final State aside = new State();
        private final int[] toldMass = new int[ROWS * ALL_PLACES];
        private final long[] plainWeight = new long[ROWS * PERSONS_AT_MOST];
        private final int[] moreMass = new int[ROWS * PERSONS_AT_MOST * POSSIBLE_IN_A_MIND];
        private final int[] fitting = new int[POSSIBLE];
        private int fitCount;
        private final int[] alike = new int[HEFTS];

        void clear() {
            seenCount = 0;
            solved = false;
        }

        boolean note(int person, int hours, int thousands, boolean more) {
            if (seenCount >= SEEN_AT_MOST) {
                return false;
            }
            put(seenPerson, seenCount, person);
            put(seenHours, seenCount, hours);
            put(seenThousands, seenCount, thousands);
            put(seenMore, seenCount, more ? 1 : 0);
            seenCount++;
            solved = false;
            return true;
        }

        void solve(Island island, State told) {
            if (solved) {
                return;
            }
            weighTold(island, told);
            fitCount = 0;
            for (int who = 0; who < island.persons; who++) {
                if (told.emptyPlace(who) == NONE) {
                    continue;
                }
                for (int kind = 0; kind < KINDS; kind++) {
                    if (island.takes(who, kind)) {
                        weighPossible(island, told.wind, who, kind);
                    }
                }
                for (int whom = 0; whom < island.persons; whom++) {
                    if (whom != who) {
                        collect(island, told, who, whom);
                    }
                }
            }
            solved = true;
        }

        private void weighTold(Island island, State told) {
            aside.copyMinds(told);
            for (int hours = 0; hours < ROWS; hours++) {
                island.weigh(aside);
                for (int i = 0; i < ALL_PLACES; i++) {
                    put(toldMass, hours * ALL_PLACES + i, at(aside.mass, i));
                }
                for (int i = 0; i < island.persons; i++) {
                    putLong(plainWeight, hours * PERSONS_AT_MOST + i, aside.weight(i));
                }
                aside.passHour();
            }
        }

        private void weighPossible(Island island, int wind, int who, int kind) {
            for (int strength = 1; strength <= STRONGEST; strength++) {
                boolean there = true;
                for (int hours = 0; hours < ROWS; hours++) {
                    island.lookUp(hours, wind, hours);
                    int mass = there ? island.massOf(who, kind, strength) : 0;
                    there = mass != 0;
                    put(moreMass, moreIndex(who, kind, strength, hours), mass);
                }
            }
        }

        private static int moreIndex(int who, int kind, int strength, int hours) {
            return ((who * KINDS + kind) * STRONGEST + strength - 1) * ROWS + hours;
        }

        private void collect(Island island, State told, int who, int whom) {
            for (int kind = 0; kind < KINDS; kind++) {
                for (int strength = 1; strength <= STRONGEST && island.takes(who, kind); strength++) {
                    int possible = 1000 * who + 100 * whom + 10 * kind + strength;
                    if (isAsSeen(told, possible)) {
                        put(fitting, fitCount, possible);
                        fitCount++;
                    }
                }
            }
        }

        private boolean isAsSeen(State told, int possible) {
            for (int i = 0; i < seenCount; i++) {
                long weight = weightWith(told, possible, at(seenPerson, i), at(seenHours, i));
                boolean more = weight >= (long) WEIGHT_OF_BODY * at(seenThousands, i);
                if (more != (at(seenMore, i) == 1)) {
                    return false;
                }
            }
            return true;
        }

        private long weightWith(State told, int possible, int person, int hours) {
            if (whomOf(possible) != person) {
                return longAt(plainWeight, hours * PERSONS_AT_MOST + person);
            }
            int who = possible / 1000;
            int more = at(moreMass, moreIndex(who, possible / 10 % 10, possible % 10, hours));
            int morePlace = who * PLACES_OF_A_MIND + told.emptyPlace(who);
            long sum = (long) WEIGHT_OF_BODY * at(told.body, person);
            for (int i = 0; i < ALL_PLACES; i++) {
                if (i == morePlace) {
                    sum = rounded(sum + more);
                } else if (at(told.whom, i) == person) {
                    sum = rounded(sum + at(toldMass, hours * ALL_PLACES + i));
                }
            }
            return sum;
        }

        int bestHoursToAsk(State told, int person) {
            int best = NONE;
            int fewest = 0;
            for (int hours = 0; hours < ROWS; hours++) {
                int most = mostAlike(told, person, hours);
                if (best == NONE || most < fewest) {
                    best = hours;
                    fewest = most;
                }
            }
            return best;
        }

        private int mostAlike(State told, int person, int hours) {
            for (int i = 0; i < HEFTS; i++) {
                put(alike, i, 0);
            }
            int others = 0;
            for (int i = 0; i < fitCount; i++) {
                int possible = at(fitting, i);
                if (whomOf(possible) == person) {
                    int heft = heftOf(weightWith(told, possible, person, hours));
                    put(alike, heft, at(alike, heft) + 1);
                } else {
                    others++;
                }
            }
            int plainHeft = heftOf(longAt(plainWeight, hours * PERSONS_AT_MOST + person));
            put(alike, plainHeft, at(alike, plainHeft) + others);
            int most = 0;
            for (int i = 0; i < HEFTS; i++) {
                most = at(alike, i) > most ? at(alike, i) : most;
            }
            return most;
        }

        private static int whomOf(int possible) {
            return possible / 100 % 10;
        }
    }

    /** HOURS with and without a tune: a state for each number of HOURS that are left. */
    private static final class Tunes {
        private final State[] ladder = new State[ODDS_HOURS + 1];

        Tunes() {
            for (int i = 0; i < ladder.length; i++) {
                ladder[i] = new State();
            }
        }

        long partsThatFloat(State now, Island island, int person, int hours, int chance) {
            State first = stateAt(ladder, hours);
            if (first == null) {
                return 0;
            }
            first.copyMinds(now);
            return floating(ladder, island, person, hours, chance, ALL_PARTS);
        }

        private static long floating(State[] ladder, Island island, int person, int left, int chance, long parts) {
            State here = stateAt(ladder, left);
            if (here == null || parts == 0) {
                return 0;
            }
            island.weigh(here);
            if (left == 0) {
                return here.floats(person) ? parts : 0;
            }
            State next = stateAt(ladder, left - 1);
            if (next == null) {
                return 0;
            }
            long with = parts * chance / 100;
            next.copyMinds(here);
            next.passHour();
            long without = floating(ladder, island, person, left - 1, chance, parts - with);
            next.copyMinds(here);
            next.renewTunesOf(person);
            island.weigh(next);
            next.passHour();
            return without + floating(ladder, island, person, left - 1, chance, with);
        }
    }
}
