import java.util.ArrayList;
import java.util.List;

/**
 * The document once more, as plainly as can be and by other ways than the class: texts are read sign by sign with a
 * pile instead of by calls within calls, numbers are ROUNDED by float, states are copied whole, all is tried out.
 */
final class PlainIsland {
    private static final class Thought {
        int of;
        int kind;
        int strength;
        int age;
    }

    private static final class World {
        Thought[][] minds;
        int[] body;
        int wind;
        int coins;
        int hour;
        List<int[]> log = new ArrayList<>();

        World copy() {
            World w = new World();
            w.minds = new Thought[minds.length][4];
            for (int m = 0; m < minds.length; m++) {
                for (int p = 0; p < 4; p++) {
                    Thought t = minds[m][p];
                    if (t != null) {
                        w.minds[m][p] = thought(t.of, t.kind, t.strength, t.age);
                    }
                }
            }
            w.body = body.clone();
            w.wind = wind;
            w.coins = coins;
            w.hour = hour;
            w.log = new ArrayList<>(log);
            return w;
        }

        int lowestEmpty(int mind) {
            for (int p = 0; p < 4; p++) {
                if (minds[mind][p] == null) {
                    return p;
                }
            }
            return -1;
        }
    }

    private static Thought thought(int of, int kind, int strength, int age) {
        Thought t = new Thought();
        t.of = of;
        t.kind = kind;
        t.strength = strength;
        t.age = age;
        return t;
    }

    private String tape = "";
    private final List<String> laws = new ArrayList<>();
    private int holds = -1;
    private int memory = 4;
    private final int[] status = new int[5];
    private int persons;
    private int ground;
    private int bridge;
    private int[] deep = {};
    private int[] mind = {};
    private World told;
    private World now;
    private World image;
    private List<World> acts = new ArrayList<>();
    private List<int[]> seen = new ArrayList<>();
    private long x;

    // ---- texts ----

    int feed(int... numbers) {
        StringBuilder more = new StringBuilder();
        for (int n : numbers) {
            for (char c : new char[] {(char) (n >>> 24), (char) (n >>> 16 & 255), (char) (n >>> 8 & 255), (char) (n & 255)}) {
                if (c != 0) {
                    more.append(c);
                }
            }
        }
        if (tape.length() + more.length() > 240) {
            return -1;
        }
        tape += more;
        return tape.length();
    }

    boolean end(int n) {
        if (n < 0 || n > tape.length()) {
            return false;
        }
        tape = tape.substring(0, n);
        return true;
    }

    int fault(int sort) {
        return sort == 0 ? islandFault(tape) : sort == 1 ? lawFault(tape) : -2;
    }

    private static boolean digit(char c) {
        return c >= '0' && c <= '9';
    }

    private static final String SORTS = "spt";
    private static final String[] LETTERS = {"wgbk", "bdm", "aoks"};
    private static final int[][] LOW = {{0, 1, 1, 0}, {1, 1, 0}, {0, 0, 0, 1}};
    private static final int[][] HIGH = {{9, 99, 99, 99}, {99, 99, 2}, {7, 7, 2, 9}};
    private static final int[][] USUAL = {{3, 40, 60, 20}, {9, 10, 0}, {0, 1, 0, 3}};

    /** Cuts a text into signs: {first byte, last byte}; a number is one sign. */
    private static List<int[]> signs(String text) {
        List<int[]> signs = new ArrayList<>();
        for (int i = 0; i < text.length(); i++) {
            if (text.charAt(i) == ' ') {
                continue;
            }
            int last = i;
            while (digit(text.charAt(i)) && last + 1 < text.length() && digit(text.charAt(last + 1))) {
                last++;
            }
            signs.add(new int[] {i, last});
            i = last;
        }
        return signs;
    }

    /** The clauses of an ISLAND (sort and four numbers each), or null where there is a fault. */
    private List<int[]> clauses(String text, int[] fault) {
        List<int[]> clauses = new ArrayList<>();
        int[] open = null;
        String used = "";
        int awaiting = -1;
        int[] counts = new int[3];
        for (int[] sign : signs(text)) {
            char c = text.charAt(sign[0]);
            fault[0] = sign[0];
            if (awaiting >= 0) {
                if (!digit(c)) {
                    return null;
                }
                if (sign[1] - sign[0] > 1) {
                    fault[0] = sign[0] + 2;
                    return null;
                }
                int v = Integer.parseInt(text.substring(sign[0], sign[1] + 1));
                if (v < LOW[open[0]][awaiting] || v > HIGH[open[0]][awaiting]) {
                    fault[0] = sign[1];
                    return null;
                }
                open[1 + awaiting] = v;
                awaiting = -1;
            } else if (open == null) {
                int sort = SORTS.indexOf(c);
                if (sort < 0 || counts[sort] == new int[] {1, 8, 12}[sort]) {
                    return null;
                }
                counts[sort]++;
                open = new int[] {sort, USUAL[sort][0], USUAL[sort][1], USUAL[sort][2], sort == 1 ? 0 : USUAL[sort][3]};
                used = "";
                clauses.add(open);
            } else if (c == ';') {
                open = null;
            } else {
                if (used.indexOf(c) >= 0 || LETTERS[open[0]].indexOf(c) < 0) {
                    return null;
                }
                used += c;
                awaiting = LETTERS[open[0]].indexOf(c);
            }
        }
        fault[0] = text.length();
        return open == null || awaiting >= 0 || !whole(clauses, counts[1]) ? null : clauses;
    }

    private boolean whole(List<int[]> clauses, int howMany) {
        if (howMany < 2) {
            return false;
        }
        List<Integer> minds = new ArrayList<>();
        for (int[] c : clauses) {
            if (c[0] == 1) {
                minds.add(c[3]);
            }
        }
        int[] full = new int[8];
        for (int[] c : clauses) {
            if (c[0] == 2) {
                if (c[1] >= howMany || c[2] >= howMany || c[1] == c[2] || !into(minds.get(c[1]), c[3]) || ++full[c[1]] > 4) {
                    return false;
                }
            }
        }
        return true;
    }

    private static boolean into(int mind, int kind) {
        return mind == 0 || mind == 1 && kind < 2 || mind == 2 && kind == 2;
    }

    private int islandFault(String text) {
        int[] fault = {0};
        return clauses(text, fault) == null ? fault[0] : -1;
    }

    /** Sign by sign, with a pile of what is open: ( [ !. */
    private int lawFault(String text) {
        String open = "";
        // y and : are due, O: what is reckoned with is due, A: it was there
        char due = 'y';
        // M: a SUM that may yet be a CONDITION, L: left of a comparison, R: right of it, P: a plain SUM
        String modes = "M";
        boolean unit = false;
        boolean closed = false;
        for (int[] sign : signs(text)) {
            char c = text.charAt(sign[0]);
            int at = sign[0];
            char mode = modes.charAt(modes.length() - 1);
            if (due == 'y' || due == ':') {
                if (c != due) {
                    return at;
                }
                due = due == 'y' ? ':' : 'O';
                modes = "M";
                unit = true;
                closed = false;
                continue;
            }
            if (due == 'O') {
                if (unit && (c == '!' || c == '(') || c == '[') {
                    if (open.length() == 6) {
                        return at;
                    }
                    open += c;
                    if (c == '[') {
                        modes += "P";
                        unit = false;
                    } else {
                        modes = modes.substring(0, modes.length() - 1) + "L" + (c == '(' ? "L" : "");
                    }
                    continue;
                }
                if (digit(c)) {
                    if (sign[1] - sign[0] > 3) {
                        return sign[0] + 4;
                    }
                } else if ("skadwh".indexOf(c) < 0) {
                    return at;
                }
                due = 'A';
                unit = false;
                continue;
            }
            // behind what is reckoned with, or behind a closed UNIT
            if (!closed && "+-*/".indexOf(c) >= 0) {
                due = 'O';
                continue;
            }
            if (!closed && c == ']' && open.endsWith("[")) {
                open = open.substring(0, open.length() - 1);
                modes = modes.substring(0, modes.length() - 1);
                continue;
            }
            if (open.endsWith("[")) {
                return at;
            }
            if (!closed && "=<>".indexOf(c) >= 0 && (mode == 'M' || mode == 'L')) {
                modes = modes.substring(0, modes.length() - 1) + "R";
                due = 'O';
                continue;
            }
            boolean unitDone = closed || mode == 'R';
            if (unitDone) {
                while (open.endsWith("!")) {
                    open = open.substring(0, open.length() - 1);
                }
            }
            if (unitDone && (c == '&' || c == '|')) {
                modes = modes.substring(0, modes.length() - 1) + "L";
                due = 'O';
                unit = true;
                closed = false;
            } else if (unitDone && c == ')' && open.endsWith("(")) {
                open = open.substring(0, open.length() - 1);
                modes = modes.substring(0, modes.length() - 1);
                closed = true;
            } else if (unitDone && c == '?' && open.isEmpty()) {
                modes = "P";
                due = 'O';
                closed = false;
            } else if (!closed && c == ';' && open.isEmpty() && (mode == 'M' || mode == 'P')) {
                due = 'y';
            } else {
                return at;
            }
        }
        char mode = modes.charAt(modes.length() - 1);
        boolean whole = due == 'A' && open.isEmpty() && !closed && (mode == 'M' || mode == 'P');
        return whole ? -1 : text.length();
    }

    int text(int sort) {
        if (sort == 0 && islandFault(tape) < 0) {
            takeIsland(clauses(tape, new int[1]));
            tape = "";
            return persons;
        }
        if (sort == 1 && laws.size() < 4 && lawFault(tape) < 0) {
            laws.add(tape.replace(" ", ""));
            tape = "";
            return laws.size() - 1;
        }
        return -1;
    }

    private void takeIsland(List<int[]> clauses) {
        int[] rules = {0, 3, 40, 60, 20};
        List<int[]> people = new ArrayList<>();
        for (int[] c : clauses) {
            if (c[0] == 0) {
                rules = c;
            } else if (c[0] == 1) {
                people.add(c);
            }
        }
        persons = people.size();
        ground = rules[2];
        bridge = rules[3];
        deep = new int[persons];
        mind = new int[persons];
        World w = new World();
        w.wind = rules[1];
        w.coins = rules[4];
        w.body = new int[persons];
        w.minds = new Thought[persons][4];
        for (int i = 0; i < persons; i++) {
            w.body[i] = people.get(i)[1];
            deep[i] = people.get(i)[2];
            mind[i] = people.get(i)[3];
        }
        for (int[] c : clauses) {
            if (c[0] == 2) {
                w.minds[c[1]][w.lowestEmpty(c[1])] = thought(c[2], c[3], c[4], 0);
            }
        }
        told = w;
        now = w.copy();
        image = null;
        acts = new ArrayList<>();
        seen = new ArrayList<>();
    }

    boolean law(int law) {
        if (law < -1 || law >= laws.size()) {
            return false;
        }
        holds = law;
        return true;
    }

    boolean memory(int v) {
        if (v < 0 || v > 9 || v == memory) {
            return false;
        }
        memory = v;
        return true;
    }

    // ---- reckoning ----

    private String law;
    private int at;
    private int[] letters;

    private int worth(int... skadwh) {
        letters = skadwh;
        for (String clause : laws.get(holds).split(";")) {
            String rest = clause.substring(2);
            int mark = rest.indexOf('?');
            if (mark >= 0) {
                law = rest.substring(0, mark) + "$";
                at = 0;
                if (!condition()) {
                    continue;
                }
            }
            law = rest.substring(mark + 1) + "$";
            at = 0;
            return sum();
        }
        return 0;
    }

    private boolean condition() {
        boolean so = truth();
        while (law.charAt(at) == '|') {
            at++;
            so = truth() | so;
        }
        return so;
    }

    private boolean truth() {
        boolean so = unit();
        while (law.charAt(at) == '&') {
            at++;
            so = unit() & so;
        }
        return so;
    }

    private boolean unit() {
        if (law.charAt(at) == '!') {
            at++;
            return !unit();
        }
        if (law.charAt(at) == '(') {
            at++;
            boolean so = condition();
            at++;
            return so;
        }
        int left = sum();
        char sign = law.charAt(at++);
        int right = sum();
        return sign == '=' ? left == right : sign == '<' ? left < right : left > right;
    }

    private static int limit(long v) {
        return (int) Math.max(-1000000, Math.min(1000000, v));
    }

    private int sum() {
        int v = term();
        while (law.charAt(at) == '+' || law.charAt(at) == '-') {
            boolean plus = law.charAt(at++) == '+';
            int w = term();
            v = limit(plus ? (long) v + w : (long) v - w);
        }
        return v;
    }

    private int term() {
        int v = atom();
        while (law.charAt(at) == '*' || law.charAt(at) == '/') {
            boolean times = law.charAt(at++) == '*';
            int w = atom();
            v = limit(times ? (long) v * w : w == 0 ? 0 : v / w);
        }
        return v;
    }

    private int atom() {
        char c = law.charAt(at++);
        if (c == '[') {
            int v = sum();
            at++;
            return v;
        }
        if (!digit(c)) {
            return letters["skadwh".indexOf(c)];
        }
        int v = c - '0';
        while (digit(law.charAt(at))) {
            v = v * 10 + law.charAt(at++) - '0';
        }
        return v;
    }

    private static long round(long n) {
        return (long) (float) n;
    }

    private long mass(World w, int who, Thought t) {
        long worth = holds < 0 ? 100000L * t.strength / (t.age + 1)
                : worth(t.strength, t.kind, t.age, deep[who], w.wind, w.hour % 24);
        return round(Math.max(0, Math.min(1000000, worth)) * deep[who]);
    }

    private long weight(World w, int person) {
        long sum = 1000L * w.body[person];
        for (int m = 0; m < persons; m++) {
            for (Thought t : w.minds[m]) {
                if (t != null && t.of == person) {
                    sum = round(sum + mass(w, m, t));
                }
            }
        }
        return sum;
    }

    private static int heft(long weight) {
        return Math.getExponent((float) weight);
    }

    private boolean floats(World w, int person) {
        return weight(w, person) < 10000L * w.wind;
    }

    private boolean sinks(World w, int person) {
        return weight(w, person) > 1000000L * ground;
    }

    private static int asTold(long weight) {
        return (int) Math.min(Integer.MAX_VALUE, weight);
    }

    private void pass(World w) {
        List<int[]> forgotten = new ArrayList<>();
        for (int m = 0; m < persons; m++) {
            for (int p = 0; p < 4; p++) {
                if (w.minds[m][p] != null && mass(w, m, w.minds[m][p]) == 0) {
                    forgotten.add(new int[] {m, p});
                }
            }
        }
        for (int[] f : forgotten) {
            w.minds[f[0]][f[1]] = null;
        }
        for (Thought[] ts : w.minds) {
            for (Thought t : ts) {
                if (t != null) {
                    t.age = Math.min(99, t.age + 1);
                }
            }
        }
        w.hour++;
    }

    private int floating(World w) {
        int bits = 0;
        for (int i = 0; i < persons; i++) {
            bits += floats(w, i) ? 1 << i : 0;
        }
        return bits;
    }

    private int sinking(World w) {
        int bits = 0;
        for (int i = 0; i < persons; i++) {
            bits += sinks(w, i) ? 1 << i : 0;
        }
        return bits;
    }

    private int thoughts(World w, int of) {
        int count = 0;
        for (Thought[] ts : w.minds) {
            for (Thought t : ts) {
                count += t != null && (of < 0 || t.of == of) ? 1 : 0;
            }
        }
        return count;
    }

    // ---- now ----

    private boolean is(int person) {
        return person >= 0 && person < persons;
    }

    int rule(int what) {
        return now == null || what < 0 || what > 3 ? -1 : new int[] {now.wind, ground, bridge, now.coins}[what];
    }

    long person(int person, int what) {
        if (!is(person) || what < 0 || what > 5) {
            return Due.THROWS;
        }
        long w = weight(now, person);
        switch (what) {
            case 0: return now.body[person];
            case 1: return deep[person];
            case 2: return mind[person];
            case 3: return asTold(w);
            case 4: return heft(w);
            default: return Float.floatToIntBits((float) w) & 0x7fffff;
        }
    }

    int thought(int person, int place, int what) {
        if (!is(person) || place < 0 || place > 3 || what < 0 || what > 4 || now.minds[person][place] == null) {
            return -1;
        }
        Thought t = now.minds[person][place];
        return (int) new long[] {t.of, t.kind, t.strength, t.age, mass(now, person, t)}[what];
    }

    int goes(int person, int kind) {
        return !is(person) || kind < 0 || kind > 2 ? -1 : into(mind[person], kind) ? 1 : 0;
    }

    int status(int what) {
        return what < 0 || what > 4 ? -1 : status[what];
    }

    int log(int i, int what) {
        return now == null || i < 0 || i >= now.log.size() || what < 0 || what > 2 ? -1
                : now.log.get(now.log.size() - 1 - i)[what];
    }

    int count(int what) {
        if (what < 0 || what > 8) {
            return -1000000;
        }
        return new int[] {persons, laws.size(), tape.length(), holds, now == null ? 0 : now.hour, memory, seen.size(),
            now == null ? 0 : now.log.size(), acts.size()}[what];
    }

    // ---- acts ----

    private int refuse(int why) {
        status[why]++;
        return -1;
    }

    private void act() {
        acts.add(now);
        if (acts.size() > 40) {
            acts.remove(0);
        }
        now = now.copy();
    }

    private void hour() {
        pass(now);
        now.log.add(new int[] {floating(now), sinking(now), thoughts(now, -1)});
        if (now.log.size() > 60) {
            now.log.remove(0);
        }
    }

    int hours(int n) {
        if (now == null) {
            return refuse(0);
        }
        if (n < 1 || n > 60) {
            return refuse(1);
        }
        if (now.hour + n > 9999) {
            return refuse(4);
        }
        for (int i = 0; i < n; i++) {
            act();
            hour();
        }
        return now.hour;
    }

    int think(int person, int other, int kind, int strength) {
        if (!is(person) || !is(other)) {
            return refuse(0);
        }
        if (person == other || kind < 0 || kind > 2 || strength < 1 || strength > 9) {
            return refuse(1);
        }
        if (!into(mind[person], kind)) {
            return refuse(2);
        }
        int place = now.lowestEmpty(person);
        if (place < 0) {
            return refuse(3);
        }
        act();
        now.minds[person][place] = thought(other, kind, strength, 0);
        return place;
    }

    int forget(int person, int place) {
        if (!is(person)) {
            return refuse(0);
        }
        if (place < 0 || place > 3) {
            return refuse(1);
        }
        if (now.minds[person][place] == null) {
            return refuse(2);
        }
        act();
        int of = now.minds[person][place].of;
        now.minds[person][place] = null;
        return of;
    }

    int hem(int person, int n) {
        if (!is(person)) {
            return refuse(0);
        }
        if (n < 1 || n > 9) {
            return refuse(1);
        }
        if (now.coins < n || now.body[person] + n > 99) {
            return refuse(3);
        }
        act();
        now.coins -= n;
        now.body[person] += n;
        return now.body[person];
    }

    int wind(int v) {
        if (now == null) {
            return refuse(0);
        }
        if (v < 0 || v > 9) {
            return refuse(1);
        }
        if (v == now.wind) {
            return refuse(2);
        }
        act();
        int was = now.wind;
        now.wind = v;
        return was;
    }

    int give(int n) {
        if (now == null) {
            return refuse(0);
        }
        if (n < 1 || n > 50) {
            return refuse(1);
        }
        if (now.coins + n > 999) {
            return refuse(3);
        }
        act();
        now.coins += n;
        return now.coins;
    }

    private int draw(int j) {
        x = x * 6364136223846793005L + 1442695040888963407L;
        return (int) Long.remainderUnsigned(x >>> 33, j);
    }

    int years(int n, long seed) {
        if (now == null || n < 1 || n > 60 || now.hour + n > 9999) {
            return -1;
        }
        x = seed;
        for (int i = 0; i < n; i++) {
            act();
            now.wind = draw(10);
            if (draw(10) < memory) {
                int who = draw(persons);
                int of = draw(persons);
                int kind = draw(3);
                int strength = draw(9) + 1;
                if (who != of && into(mind[who], kind) && now.lowestEmpty(who) >= 0) {
                    now.minds[who][now.lowestEmpty(who)] = thought(of, kind, strength, 0);
                }
            }
            hour();
        }
        return now.hour;
    }

    int undo() {
        if (acts.isEmpty()) {
            return -1;
        }
        now = acts.remove(acts.size() - 1);
        return acts.size();
    }

    int image() {
        if (now == null) {
            return -1;
        }
        image = now.copy();
        return now.hour;
    }

    int back() {
        if (image == null) {
            return -1;
        }
        now = image.copy();
        acts.clear();
        return now.hour;
    }

    // ---- apart ----

    int behind(int person, int n) {
        if (!is(person) || n < 0 || n > 60) {
            return -1;
        }
        World w = now.copy();
        for (int i = 0; i < n; i++) {
            pass(w);
        }
        return asTold(weight(w, person));
    }

    int floatsIn(int person) {
        if (!is(person)) {
            return -1;
        }
        World w = now.copy();
        for (int i = 0; i < 100; i++) {
            if (floats(w, person)) {
                return i;
            }
            pass(w);
        }
        return -1;
    }

    private long loadOf(int some) {
        long sum = 0;
        for (int i = 0; i < persons; i++) {
            if ((some & 1 << i) != 0) {
                sum = round(sum + weight(now, i));
            }
        }
        return sum;
    }

    int load(int some) {
        return now == null || some < 0 || some >= 1 << persons ? -1 : asTold(loadOf(some));
    }

    int together() {
        if (now == null) {
            return -1;
        }
        for (int most = persons; most > 0; most--) {
            for (int some = 0; some < 1 << persons; some++) {
                if (Integer.bitCount(some) == most && loadOf(some) <= 1000000L * bridge) {
                    return some;
                }
            }
        }
        return 0;
    }

    int goings() {
        if (now == null) {
            return -1;
        }
        boolean[] bears = new boolean[1 << persons];
        for (int some = 0; some < bears.length; some++) {
            bears[some] = loadOf(some) <= 1000000L * bridge;
        }
        for (int i = 0; i < persons; i++) {
            if (!bears[1 << i]) {
                return -1;
            }
        }
        return split(bears, 0, new int[persons], 0);
    }

    private int split(boolean[] bears, int person, int[] groups, int used) {
        if (person == persons) {
            return used;
        }
        int best = 99;
        for (int g = 0; g <= used && g < persons; g++) {
            groups[g] |= 1 << person;
            if (bears[groups[g]]) {
                best = Math.min(best, split(bears, person + 1, groups, Math.max(used, g + 1)));
            }
            groups[g] &= ~(1 << person);
        }
        return best;
    }

    int held(int person) {
        if (!is(person)) {
            return -1;
        }
        if (!floats(now, person)) {
            return 0;
        }
        int best = -1;
        for (int some = 0; some < 1 << persons; some++) {
            World w = now.copy();
            boolean able = true;
            for (int i = 0; i < persons; i++) {
                if ((some >> i & 1) == 1) {
                    int p = w.lowestEmpty(i);
                    if (i == person || p < 0 || !into(mind[i], 0)) {
                        able = false;
                    } else {
                        w.minds[i][p] = thought(person, 0, 5, 0);
                    }
                }
            }
            if (able && !floats(w, person) && (best < 0 || Integer.bitCount(some) < Integer.bitCount(best))) {
                best = some;
            }
        }
        return best;
    }

    int eased(int person) {
        if (!is(person)) {
            return -1;
        }
        World w = now.copy();
        int count = 0;
        while (sinks(w, person)) {
            long most = -1;
            int[] where = null;
            for (int m = 0; m < persons; m++) {
                for (int p = 0; p < 4; p++) {
                    Thought t = w.minds[m][p];
                    if (t != null && t.of == person && mass(w, m, t) > most) {
                        most = mass(w, m, t);
                        where = new int[] {m, p};
                    }
                }
            }
            w.minds[where[0]][where[1]] = null;
            count++;
        }
        return count;
    }

    int odds(int person, int n, int chance) {
        if (!is(person) || n < 0 || n > 6 || chance < 0 || chance > 100) {
            return -1;
        }
        long sum = 0;
        for (int way = 0; way < 1 << n; way++) {
            World w = now.copy();
            long part = 1000000000;
            for (int h = 0; h < n; h++) {
                long with = part * chance / 100;
                if ((way >> h & 1) == 1) {
                    part = with;
                    for (Thought[] ts : w.minds) {
                        for (Thought t : ts) {
                            if (t != null && t.of == person && t.kind == 2) {
                                t.age = 0;
                            }
                        }
                    }
                } else {
                    part -= with;
                }
                pass(w);
            }
            sum += floats(w, person) ? part : 0;
        }
        return (int) sum;
    }

    int shares(int person, int c) {
        if (!is(person) || c < 0 || c > 999) {
            return -1;
        }
        long all = 0;
        for (int i = 0; i < persons; i++) {
            all += asTold(weight(now, i));
        }
        return (int) ((long) c * asTold(weight(now, person)) / all);
    }

    private interface Measure {
        long of(int person);
    }

    private int best(Measure measure) {
        int best = 0;
        for (int i = 0; i < persons; i++) {
            if (measure.of(i) > measure.of(best)) {
                best = i;
            }
        }
        return best;
    }

    private int bits(Measure measure) {
        int bits = 0;
        for (int i = 0; i < persons; i++) {
            bits += measure.of(i) > 0 ? 1 << i : 0;
        }
        return bits;
    }

    private boolean thinks(int who, int of) {
        for (Thought t : now.minds[who]) {
            if (t != null && t.of == of) {
                return true;
            }
        }
        return false;
    }

    int most(int what) {
        if (now == null || what < 0 || what > 10) {
            return -1000000;
        }
        switch (what) {
            case 0: return best(i -> weight(now, i));
            case 1: return best(i -> -weight(now, i));
            case 2: return best(i -> deep[i]);
            case 3: return best(i -> thoughts(now, i));
            case 4: return floating(now);
            case 5: return sinking(now);
            case 6: return bits(i -> thoughts(now, i) == 0 ? 1 : 0);
            case 7: return thoughts(now, -1);
            case 8: return bits(i -> now.lowestEmpty(i) < 0 ? 1 : 0);
            default: break;
        }
        int oldest = -1;
        int pairs = 0;
        for (int i = 0; i < persons; i++) {
            for (Thought t : now.minds[i]) {
                oldest = t == null ? oldest : Math.max(oldest, t.age);
            }
            for (int j = 0; j < i; j++) {
                pairs += thinks(i, j) && thinks(j, i) ? 1 : 0;
            }
        }
        return what == 9 ? oldest : pairs;
    }

    // ---- riddles and games ----

    int seen(int person, int n, int v, boolean more) {
        if (!is(person) || n < 0 || n > 8 || v < 0 || v > 9999 || seen.size() == 10) {
            return -1;
        }
        seen.add(new int[] {person, n, v, more ? 1 : 0});
        return seen.size();
    }

    /** WEIGHTS of all behind 0 .. 8 HOURS with this THOUGHT more. */
    private long[][] course(int code) {
        World w = told.copy();
        int who = code / 1000;
        w.minds[who][w.lowestEmpty(who)] = thought(code / 100 % 10, code / 10 % 10, code % 10, 0);
        long[][] course = new long[9][persons];
        for (int n = 0; n < 9; n++) {
            for (int i = 0; i < persons; i++) {
                course[n][i] = weight(w, i);
            }
            pass(w);
        }
        return course;
    }

    private List<long[][]> courses = new ArrayList<>();

    private List<Integer> fitting() {
        List<Integer> fitting = new ArrayList<>();
        courses = new ArrayList<>();
        for (int code = 0; code < 8000; code++) {
            int who = code / 1000;
            int of = code / 100 % 10;
            int kind = code / 10 % 10;
            if (!is(who) || !is(of) || who == of || kind > 2 || code % 10 == 0 || !into(mind[who], kind)
                    || told.lowestEmpty(who) < 0) {
                continue;
            }
            long[][] course = course(code);
            boolean fits = true;
            for (int[] s : seen) {
                boolean more = course[s[1]][s[0]] >= 1000L * s[2];
                fits &= s[3] == 1 ? more : !more;
            }
            if (fits) {
                fitting.add(code);
                courses.add(course);
            }
        }
        return fitting;
    }

    int fits(int i) {
        if (told == null) {
            return -1;
        }
        List<Integer> fitting = fitting();
        return i == -1 ? fitting.size() : i < 0 || i >= fitting.size() ? -1 : fitting.get(i);
    }

    int ask(int person) {
        if (!is(person) || fitting().isEmpty()) {
            return -1;
        }
        int best = -1;
        int least = 0;
        for (int n = 0; n <= 8; n++) {
            int[] alike = new int[99];
            int most = 0;
            for (long[][] course : courses) {
                most = Math.max(most, ++alike[heft(course[n][person])]);
            }
            if (best < 0 || most < least) {
                best = n;
                least = most;
            }
        }
        return best;
    }

    private int gain(int me, int him, int mine, int his) {
        World w = now.copy();
        for (int turn = 0; turn < 2; turn++) {
            int who = turn == 0 ? me : him;
            int of = turn == 0 ? him : me;
            int move = turn == 0 ? mine : his;
            if (move == 1 && into(mind[who], 0) && w.lowestEmpty(who) >= 0) {
                w.minds[who][w.lowestEmpty(who)] = thought(of, 0, 9, 0);
            }
            for (int p = 0; move == 2 && p < 4; p++) {
                if (w.minds[who][p] != null && w.minds[who][p].of == of) {
                    w.minds[who][p] = null;
                }
            }
        }
        return heft(weight(w, me)) - heft(weight(w, him)) + (floats(w, him) ? 2 : 0);
    }

    int game(int one, int other, int x, int y, int what) {
        if (!is(one) || !is(other) || one == other || x < 0 || x > 2 || y < 0 || y > 2 || what < 0 || what > 1) {
            return -1000000;
        }
        return what == 0 ? gain(one, other, x, y) : gain(other, one, y, x);
    }

    int rests(int one, int other, int i) {
        if (!is(one) || !is(other) || one == other || i < -1) {
            return -1;
        }
        List<Integer> rests = new ArrayList<>();
        for (int x = 0; x < 3; x++) {
            for (int y = 0; y < 3; y++) {
                boolean rest = true;
                for (int z = 0; z < 3; z++) {
                    rest &= gain(one, other, z, y) <= gain(one, other, x, y);
                    rest &= gain(other, one, z, x) <= gain(other, one, y, x);
                }
                if (rest) {
                    rests.add(10 * x + y);
                }
            }
        }
        return i < 0 ? rests.size() : i < rests.size() ? rests.get(i) : -1;
    }
}
