import java.math.BigInteger;

/** Promises 11 to 21, 37, 38: the bounds of HOURS, ACTS, the LOG, STATUS, what is UNDONE, YEARS, IMAGES. */
public final class TimeBoundsTest {
    private static final Due DUE = new Due("TimeBoundsTest");

    public static void main(String[] args) {
        lastHours();
        lastYears();
        forgotten();
        emptyPlaces();
        bodies();
        coins();
        winds();
        lengthOfTheLog();
        fullLog();
        actsKept();
        actsKeptOfAllSorts();
        actsAfterUndone();
        hoursKept();
        severalReasons();
        statusStays();
        years();
        yearsOfMemory();
        wideSeeds();
        seedsAgain();
        images();
        imagesOfOthers();
        DUE.finish();
    }

    private static void statuses(String when, RememberedWeight x, int... due) {
        for (int i = 0; i < due.length; i++) {
            DUE.is("status(" + i + ") " + when, x.status(i), due[i]);
        }
    }

    /** An ISLAND of two with nobody thought of, at this HOUR. */
    private static RememberedWeight at(int hour) {
        RememberedWeight x = Due.island("p;p");
        while (x.count(4) < hour) {
            x.hours(Math.min(60, hour - x.count(4)));
        }
        return x;
    }

    /** 9,999 at most. */
    private static void lastHours() {
        RememberedWeight x = at(9939);
        DUE.is("hours(60) to the last one", x.hours(60), 9999);
        DUE.is("count(8)", x.count(8), 40);
        DUE.is("none goes by", x.hours(1), -1);
        DUE.is("none goes by", x.hours(60), -1);
        statuses("at the last HOUR", x, 0, 0, 0, 0, 2);
        DUE.is("out of bounds", x.hours(61), -1);
        DUE.is("out of bounds", x.hours(0), -1);
        statuses("at the last HOUR", x, 0, 2, 0, 0, 2);
        DUE.is("count(4)", x.count(4), 9999);
        RememberedWeight y = at(9940);
        DUE.is("one too many", y.hours(60), -1);
        statuses("one too many", y, 0, 0, 0, 0, 1);
        DUE.is("none of them", y.count(4), 9940);
        DUE.is("59", y.hours(59), 9999);
        RememberedWeight z = at(9998);
        DUE.is("two", z.hours(2), -1);
        DUE.is("one", z.hours(1), 9999);
        // all else goes on
        DUE.is("think", z.think(0, 1, 0, 9), 0);
        DUE.is("wind", z.wind(0), 3);
        DUE.is("behind", z.behind(1, 60), 9000 + 900000 / 61 * 10);
        DUE.is("image", z.image(), 9999);
        DUE.is("undo", z.undo(), 39);
        DUE.is("back", z.back(), 9999);
    }

    private static void lastYears() {
        RememberedWeight x = at(9939);
        DUE.is("years(60) to the last one", x.years(60, 3), 9999);
        DUE.is("none goes by", x.years(1, 3), -1);
        DUE.is("undo", x.undo(), 39);
        DUE.is("years(2)", x.years(2, 3), -1);
        DUE.is("years(1)", x.years(1, 3), 9999);
        RememberedWeight y = at(9940);
        DUE.is("one too many", y.years(60, 3), -1);
        DUE.is("none of them", y.count(4), 9940);
        DUE.is("no draw", y.rule(0), 3);
        DUE.is("59", y.years(59, 3), 9999);
        statuses("of YEARS", x, 0, 0, 0, 0, 0);
        statuses("of YEARS", y, 0, 0, 0, 0, 0);
    }

    /** A THOUGHT whose MASS is 0 as an HOUR begins is forgotten then, not sooner. */
    private static void forgotten() {
        for (int age = 0; age <= 99; age++) {
            RememberedWeight x = Due.island("pd1;pd1;ta1o0;t", "y:k=0&a<" + age + "?1;y:k=1?1;y:0");
            x.think(0, 1, 1, 1);
            for (int left = age; left > 0; left -= 60) {
                x.hours(Math.min(60, left));
            }
            DUE.is("of MASS 0 now", x.thought(0, 0, 4), 0);
            DUE.is("yet there", x.thought(0, 0, 3), age);
            DUE.is("both", x.most(7), 3);
            DUE.is("LOG", x.log(0, 2), age == 0 ? -1 : 3);
            x.hours(1);
            DUE.is("forgotten", x.thought(0, 0, 3), -1);
            DUE.is("forgotten", x.thought(1, 0, 3), -1);
            DUE.is("the other one stays in its place", x.thought(0, 1, 3), Math.min(99, age + 1));
            DUE.is("LOG", x.log(0, 2), 1);
        }
        // all as the HOUR began: one of MASS 0 by its h is gone, one of MASS 0 in the next HOUR is not
        for (int hour = 0; hour <= 25; hour++) {
            RememberedWeight x = Due.island("pd1;pd1;t", "y:h=" + hour % 24 + "?0;y:1");
            for (int i = 0; i < hour % 24; i++) {
                x.hours(1);
                DUE.is("there at HOUR " + (i + 1), x.most(7), 1);
            }
            x.hours(1);
            DUE.is("gone behind HOUR " + hour % 24, x.most(7), 0);
        }
    }

    private static void emptyPlaces() {
        for (int way = 0; way < 16; way++) {
            RememberedWeight x = Due.island("p;p;t;t;t;t");
            DUE.is("full", x.think(0, 1, 0, 1), -1);
            for (int place = 0; place < 4; place++) {
                if ((way >> place & 1) == 1) {
                    DUE.is("forget", x.forget(0, place), 1);
                    DUE.is("none there", x.forget(0, place), -1);
                }
            }
            DUE.is("FULL", x.most(8), way == 0 ? 1 : 0);
            for (int place = 0; place < 4; place++) {
                if ((way >> place & 1) == 1) {
                    DUE.is("the lowest empty place", x.think(0, 1, 0, 2), place);
                }
            }
            DUE.is("full again", x.think(0, 1, 0, 1), -1);
            statuses("of " + way, x, 0, 0, Integer.bitCount(way), 2, 0);
        }
    }

    /** A BODY 99 at most, n COINS at least. */
    private static void bodies() {
        for (int body = 89; body <= 99; body++) {
            for (int n = 1; n <= 9; n++) {
                RememberedWeight x = Due.island("sk" + n + ";p;pb" + body);
                DUE.is("hem(1, " + n + ") of " + body, x.hem(1, n), body + n <= 99 ? body + n : -1);
                DUE.is("BODY", Due.person(x, 1, 0), body + n <= 99 ? body + n : body);
                DUE.is("COINS", x.rule(3), body + n <= 99 ? 0 : n);
                statuses("of stones", x, 0, 0, 0, body + n <= 99 ? 0 : 1, 0);
                RememberedWeight y = Due.island("sk" + (n - 1) + ";p;pb" + body);
                DUE.is("one COIN too few", y.hem(1, n), -1);
                // too few, and above 99 perhaps: one reason alike
                statuses("of stones", y, 0, 0, 0, 1, 0);
                DUE.is("no ACT", y.count(8), 0);
            }
        }
    }

    private static void coins() {
        for (int n = 1; n <= 50; n++) {
            RememberedWeight x = Due.island("sk99;p;p");
            for (int i = 0; i < 17; i++) {
                x.give(50);
            }
            x.give(50 - n);
            int coins = 949 + (n < 50 ? 50 - n : 0);
            DUE.is("COINS", x.rule(3), coins);
            DUE.is("give(" + n + ") to 999", x.give(n), 999);
            DUE.is("one more", x.give(1), -1);
            x.undo();
            if (n < 50) {
                DUE.is("give(" + (n + 1) + ") to 1,000", x.give(n + 1), -1);
            }
            DUE.is("COINS", x.rule(3), coins);
            statuses("of COINS", x, 0, n == 50 ? 1 : 0, 0, n < 50 ? 2 : 1, 0);
        }
    }

    private static void winds() {
        for (int v = 0; v <= 9; v++) {
            RememberedWeight x = Due.island("sw" + v + ";p;p");
            for (int w = 0; w <= 9; w++) {
                DUE.is("wind(" + w + ") in " + v, x.wind(w), w == v ? -1 : v);
                DUE.is("WIND", x.rule(0), w);
                x.undo();
                DUE.is("WIND", x.rule(0), v);
            }
            statuses("of WIND", x, 0, 0, 1, 0, 0);
        }
    }

    /** Of eight whose BODIES are 5 15 .. 75 as many FLOAT as there is WIND; WIND is set by the HOUR. */
    private static RememberedWeight windy(int hours) {
        RememberedWeight x = Due.island("pb5;pb15;pb25;pb35;pb45;pb55;pb65;pb75");
        for (int hour = 1; hour <= hours; hour++) {
            x.wind(hour % 9);
            x.hours(1);
        }
        return x;
    }

    private static int floating(int hour) {
        return (1 << hour % 9) - 1;
    }

    private static void lengthOfTheLog() {
        for (int hours : new int[] {0, 1, 2, 58, 59, 60, 61, 62, 119, 120, 121, 150}) {
            RememberedWeight x = windy(hours);
            int length = Math.min(hours, 60);
            DUE.is("count(7) behind " + hours, x.count(7), length);
            for (int i = 0; i < 60; i++) {
                DUE.is("log(" + i + ", 0) behind " + hours, x.log(i, 0), i < length ? floating(hours - i) : -1);
            }
            DUE.is("log(60, 0)", x.log(60, 0), -1);
            DUE.is("log(61, 0)", x.log(61, 0), -1);
        }
        // what was thrown out of it is there again, if the HOURS are UNDONE
        RememberedWeight x = windy(100);
        for (int hour = 99; hour >= 81; hour--) {
            x.undo();
            x.undo();
            DUE.is("log(59, 0) of HOUR " + hour, x.log(59, 0), floating(hour - 59));
            DUE.is("log(0, 0) of HOUR " + hour, x.log(0, 0), floating(hour));
        }
        RememberedWeight y = windy(70);
        y.image();
        y.hours(60);
        DUE.is("gone", y.log(59, 0), floating(70));
        DUE.is("back", y.back(), 70);
        for (int i = 0; i < 60; i++) {
            DUE.is("log(" + i + ", 0) again", y.log(i, 0), floating(70 - i));
        }
    }

    /** All eight SINK, 32 THOUGHTS there are. */
    private static void fullLog() {
        StringBuilder text = new StringBuilder("sg1w9");
        for (int i = 0; i < 8; i++) {
            text.append(";pb9d9");
        }
        RememberedWeight x = Due.island(text.toString());
        for (int i = 0; i < 32; i++) {
            DUE.is("place", x.think(i / 4, (i / 4 + 1) % 8, i % 3, 9), i % 4);
        }
        x.hours(1);
        DUE.is("FLOATS", x.log(0, 0), 0);
        DUE.is("SINKS", x.log(0, 1), 255);
        DUE.is("THOUGHTS", x.log(0, 2), 32);
        DUE.is("THOUGHTS", x.most(7), 32);
        DUE.is("FULL", x.most(8), 255);
        x.hours(2);
        DUE.is("AGES", x.most(9), 3);
        for (int i = 0; i < 32; i++) {
            DUE.is("KIND", x.thought(i / 4, i % 4, 1), i % 3);
            DUE.is("AGE", x.thought(i / 4, i % 4, 3), 3);
        }
        for (int i = 0; i < 32; i++) {
            DUE.is("forget", x.forget(i / 4, i % 4), (i / 4 + 1) % 8);
        }
        x.hours(1);
        DUE.is("FLOATS", x.log(0, 0), 255);
        DUE.is("SINKS", x.log(0, 1), 0);
        DUE.is("THOUGHTS", x.log(0, 2), 0);
    }

    /** The latest 40 one by one, no more. */
    private static void actsKept() {
        for (int acts = 0; acts <= 130; acts = acts < 38 ? acts + 19 : acts < 44 ? acts + 1 : acts + 17) {
            RememberedWeight x = Due.island("sk0;p;p");
            for (int i = 1; i <= acts; i++) {
                DUE.is("give", x.give(1), i);
                DUE.is("count(8)", x.count(8), Math.min(i, 40));
            }
            int kept = Math.min(acts, 40);
            for (int i = 1; i <= kept; i++) {
                DUE.is("undo", x.undo(), kept - i);
                DUE.is("count(8)", x.count(8), kept - i);
                DUE.is("COINS", x.rule(3), acts - i);
            }
            DUE.is("none", x.undo(), -1);
            DUE.is("none", x.undo(), -1);
            DUE.is("COINS", x.rule(3), acts - kept);
            DUE.is("count(8)", x.count(8), 0);
        }
    }

    /** Of each sort 39 ACTS behind one of giving: the one that was ahead of them can be UNDONE, not with one more. */
    private static void actsKeptOfAllSorts() {
        for (int sort = 0; sort < 6; sort++) {
            for (int acts = 39; acts <= 40; acts++) {
                RememberedWeight x = Due.island("sk99;pb1;pb1");
                x.give(9);
                for (int i = 0; i < acts; i++) {
                    act(x, sort, i);
                }
                for (int i = 0; i < 40; i++) {
                    DUE.is("undo of sort " + sort, x.undo(), 39 - i);
                }
                DUE.is("none", x.undo(), -1);
                DUE.is("COINS", x.rule(3), acts == 39 ? 99 : 108);
                DUE.is("HOUR", x.count(4), 0);
                DUE.is("THOUGHTS", x.most(7), 0);
                DUE.is("WIND", x.rule(0), 3);
                DUE.is("BODY", Due.person(x, 0, 0), 1);
            }
        }
    }

    private static void act(RememberedWeight x, int sort, int i) {
        switch (sort) {
            case 0: x.hours(1); break;
            case 1: x.wind(i % 2 == 0 ? 1 : 2); break;
            case 2: x.hem(i % 2, 1); break;
            case 3: x.give(2); break;
            case 4: x.years(1, i); break;
            default:
                if (i % 2 == 0) {
                    x.think(1, 0, 1, 5);
                } else {
                    x.forget(1, 0);
                }
        }
    }

    private static void actsAfterUndone() {
        RememberedWeight x = Due.island("sk0;p;p");
        int coins = 0;
        for (int round = 0; round < 25; round++) {
            for (int i = 0; i < 7; i++) {
                coins++;
                DUE.is("give", x.give(1), coins);
            }
            for (int i = 0; i < 4; i++) {
                coins--;
                x.undo();
                DUE.is("COINS", x.rule(3), coins);
            }
            DUE.is("count(8)", x.count(8), Math.min(coins, 36));
        }
        for (int left = 35; left >= 0; left--) {
            DUE.is("undo", x.undo(), left);
        }
        DUE.is("COINS", x.rule(3), coins - 36);
    }

    /** Each HOUR is an ACT. */
    private static void hoursKept() {
        for (int years = 0; years <= 1; years++) {
            RememberedWeight x = Due.island("sk5;p;p;p");
            x.memory(9);
            x.give(1);
            DUE.is("sixty", years == 0 ? x.hours(60) : x.years(60, 11), 60);
            DUE.is("count(8)", x.count(8), 40);
            int[] winds = new int[61];
            RememberedWeight y = Due.island("sk5;p;p;p");
            y.memory(9);
            for (int i = 59; i >= 20; i--) {
                DUE.is("undo", x.undo(), i - 20);
                DUE.is("HOUR", x.count(4), i);
                DUE.is("count(7)", x.count(7), i);
                winds[i] = x.rule(0);
            }
            DUE.is("none", x.undo(), -1);
            DUE.is("HOUR", x.count(4), 20);
            DUE.is("COINS", x.rule(3), 6);
            DUE.is("twenty", years == 0 ? y.hours(20) : y.years(20, 11), 20);
            DUE.is("WIND of HOUR 20", winds[20], y.rule(0));
            DUE.is("THOUGHTS of HOUR 20", x.most(7), y.most(7));
        }
    }

    /** Of several reasons the first one counts, and that alone. */
    private static void severalReasons() {
        RememberedWeight x = Due.island("sk0;p;pm1b99;pm2;t;t;t;t");
        DUE.is("nobody, KIND, STRENGTH", x.think(3, 3, 3, 0), -1);
        DUE.is("of nobody, KIND, a full MIND", x.think(0, -1, 3, 10), -1);
        statuses("of nobody", x, 2, 0, 0, 0, 0);
        DUE.is("alike, KIND", x.think(1, 1, 3, 1), -1);
        DUE.is("alike, a tune that does not go", x.think(1, 1, 2, 1), -1);
        DUE.is("STRENGTH, a tune that does not go", x.think(1, 0, 2, 10), -1);
        DUE.is("KIND, STRENGTH", x.think(1, 0, -1, 0), -1);
        DUE.is("alike, a full MIND", x.think(0, 0, 0, 1), -1);
        DUE.is("STRENGTH, a full MIND", x.think(0, 1, 0, 0), -1);
        statuses("out of bounds", x, 2, 6, 0, 0, 0);
        for (int i = 0; i < 4; i++) {
            x.think(2, 0, 2, 1);
        }
        DUE.is("does not go, a full MIND", x.think(2, 0, 0, 1), -1);
        statuses("it does not go", x, 2, 6, 1, 0, 0);
        DUE.is("a full MIND", x.think(2, 0, 2, 1), -1);
        statuses("no place", x, 2, 6, 1, 1, 0);
        DUE.is("nobody, no such place", x.forget(3, 4), -1);
        DUE.is("nobody, none there", x.forget(-1, 0), -1);
        DUE.is("no such place", x.forget(1, 4), -1);
        DUE.is("none there", x.forget(1, 3), -1);
        statuses("of forgetting", x, 4, 7, 2, 1, 0);
        DUE.is("nobody, out of bounds", x.hem(3, 10), -1);
        DUE.is("out of bounds, too few COINS, above 99", x.hem(1, 10), -1);
        DUE.is("out of bounds, too few COINS", x.hem(0, 0), -1);
        DUE.is("too few COINS, above 99", x.hem(1, 1), -1);
        DUE.is("too few COINS", x.hem(0, 1), -1);
        statuses("of stones", x, 5, 9, 2, 3, 0);
        x.give(9);
        DUE.is("above 99", x.hem(1, 1), -1);
        statuses("of stones", x, 5, 9, 2, 4, 0);
        RememberedWeight y = at(9999);
        DUE.is("out of bounds, beyond", y.hours(61), -1);
        DUE.is("out of bounds, beyond", y.hours(Integer.MAX_VALUE), -1);
        statuses("of HOURS", y, 0, 2, 0, 0, 0);
        RememberedWeight z = new RememberedWeight();
        z.hours(61);
        z.wind(10);
        z.give(51);
        z.hem(0, 10);
        z.forget(0, 4);
        z.think(0, 0, 3, 0);
        statuses("without an ISLAND", z, 6, 0, 0, 0, 0);
    }

    /** STATUS is not UNDONE, not with an IMAGE, not with another ISLAND; what is no ACT has none. */
    private static void statusStays() {
        RememberedWeight x = Due.island("sk0;p;p;t;t;t;t");
        x.image();
        x.give(1);
        x.hours(0);
        x.wind(3);
        x.think(0, 1, 0, 1);
        x.hem(2, 1);
        statuses("of each", x, 1, 1, 1, 1, 0);
        x.undo();
        x.undo();
        statuses("UNDONE", x, 1, 1, 1, 1, 0);
        x.back();
        statuses("BACK", x, 1, 1, 1, 1, 0);
        Due.feed(x, "p;p");
        x.text(0);
        statuses("of another ISLAND", x, 1, 1, 1, 1, 0);
        x.text(0);
        x.text(2);
        x.law(0);
        x.memory(10);
        x.years(0, 0);
        x.undo();
        x.back();
        x.seen(2, 0, 0, true);
        x.game(0, 0, 0, 0, 0);
        x.load(-1);
        x.behind(0, 61);
        statuses("of what is no ACT", x, 1, 1, 1, 1, 0);
    }

    /** The document's draws once more, by numbers without bounds. */
    private static final class Draws {
        private static final BigInteger TIMES = new BigInteger("6364136223846793005");
        private static final BigInteger PLUS = new BigInteger("1442695040888963407");
        private static final BigInteger ROUND = BigInteger.ONE.shiftLeft(64);

        private BigInteger x;

        Draws(long seed) {
            x = BigInteger.valueOf(seed).mod(ROUND);
        }

        int of(int j) {
            x = x.multiply(TIMES).add(PLUS).mod(ROUND);
            return x.shiftRight(33).mod(BigInteger.valueOf(j)).intValue();
        }
    }

    /** YEARS in MINDS of each sort by a LAW by which nothing is forgotten: {of whom, KIND, STRENGTH, AGE} or null. */
    private static void years(int[] minds, int memory, int n, long seed) {
        StringBuilder text = new StringBuilder();
        for (int mind : minds) {
            text.append(text.length() == 0 ? "" : ";").append("pm").append(mind);
        }
        RememberedWeight x = Due.island(text.toString(), "y:7");
        x.memory(memory);
        String name = "years(" + n + ", " + seed + ") of " + minds.length + " with MEMORY " + memory;
        DUE.is(name, x.years(n, seed), n);
        int[][] places = new int[minds.length * 4][];
        Draws draws = new Draws(seed);
        int wind = 3;
        for (int hour = 0; hour < n; hour++) {
            wind = draws.of(10);
            if (draws.of(10) < memory) {
                int who = draws.of(minds.length);
                int whom = draws.of(minds.length);
                int kind = draws.of(3);
                int strength = draws.of(9) + 1;
                boolean goes = minds[who] == 0 || (minds[who] == 2) == (kind == 2);
                for (int place = 4 * who; who != whom && goes && place < 4 * who + 4; place++) {
                    if (places[place] == null) {
                        places[place] = new int[] {whom, kind, strength, hour};
                        break;
                    }
                }
            }
        }
        DUE.is("WIND behind " + name, x.rule(0), wind);
        DUE.is("count(8) behind " + name, x.count(8), Math.min(n, 40));
        for (int i = 0; i < places.length; i++) {
            for (int what = 0; what < 4; what++) {
                int due = places[i] == null ? -1 : what == 3 ? n - places[i][3] : places[i][what];
                DUE.is("thought(" + i / 4 + ", " + i % 4 + ", " + what + ") behind " + name, x.thought(i / 4, i % 4, what), due);
            }
        }
        statuses("behind " + name, x, 0, 0, 0, 0, 0);
    }

    private static void years() {
        int[][] islands = {{0, 0}, {1, 2}, {0, 1, 2}, {0, 0, 0, 0, 0}, {2, 1, 0, 2, 1, 0, 0}, {0, 1, 0, 2, 0, 1, 0, 2}};
        long[] seeds = {0, 1, -1, 42, Long.MIN_VALUE, Long.MAX_VALUE, 123456789012345L};
        for (int[] minds : islands) {
            for (long seed : seeds) {
                for (int n : new int[] {1, 2, 59, 60}) {
                    years(minds, 4, n, seed);
                    years(minds, 9, n, seed);
                }
            }
        }
    }

    /** With MEMORY 0 nobody ever thinks; else a draw of MEMORY itself is not below it. */
    private static void yearsOfMemory() {
        for (int memory = 0; memory <= 9; memory++) {
            for (long seed = -30; seed < 30; seed++) {
                years(new int[] {0, 0, 0}, memory, 3, seed);
            }
        }
        RememberedWeight x = Due.island("p;p;p");
        x.memory(0);
        x.years(60, 5);
        DUE.is("nobody thinks", x.most(7), 0);
    }

    /** Seeds that differ in their highest bits alone: without sign, going round. */
    private static void wideSeeds() {
        for (int bit = 0; bit < 64; bit++) {
            years(new int[] {0, 0, 0, 0, 0, 0, 0, 0}, 9, 2, 1L << bit);
            years(new int[] {0, 0, 0}, 9, 1, -1L << bit);
            years(new int[] {0, 0, 0}, 9, 1, ~(1L << bit));
        }
    }

    /** Each time x is the seed at first, whatever was drawn ahead. */
    private static void seedsAgain() {
        RememberedWeight x = Due.island("p;p;p");
        x.memory(9);
        for (long seed = 0; seed < 40; seed++) {
            DUE.is("years(3, " + seed + ")", x.years(3, seed), 3);
            int wind = x.rule(0);
            int thoughts = x.most(7);
            for (int i = 2; i >= 0; i--) {
                DUE.is("undo", x.undo(), i);
            }
            DUE.is("years(3, " + seed + ") again", x.years(3, seed), 3);
            DUE.is("WIND", x.rule(0), wind);
            DUE.is("THOUGHTS", x.most(7), thoughts);
            for (int i = 2; i >= 0; i--) {
                DUE.is("undo", x.undo(), i);
            }
        }
    }

    private static void images() {
        RememberedWeight x = Due.island("sk50;pb1;pb2;t");
        DUE.is("there is none", x.back(), -1);
        DUE.is("image", x.image(), 0);
        x.hours(1);
        x.hem(0, 9);
        DUE.is("instead of the one ahead", x.image(), 1);
        for (int i = 0; i < 45; i++) {
            x.give(1);
        }
        x.hours(60);
        x.wind(9);
        x.forget(0, 0);
        x.memory(8);
        x.seen(0, 0, 0, true);
        DUE.is("back", x.back(), 1);
        int[] counts = {2, 0, 0, -1, 1, 8, 1, 1, 0};
        for (int i = 0; i < counts.length; i++) {
            DUE.is("count(" + i + ")", x.count(i), counts[i]);
        }
        DUE.is("BODY", Due.person(x, 0, 0), 10);
        DUE.is("COINS", x.rule(3), 41);
        DUE.is("WIND", x.rule(0), 3);
        DUE.is("AGE", x.thought(0, 0, 3), 1);
        DUE.is("LOG", x.log(0, 2), 1);
        DUE.is("no ACT can be UNDONE", x.undo(), -1);
        DUE.is("back where one is", x.back(), 1);
        x.wind(1);
        DUE.is("one ACT", x.count(8), 1);
        DUE.is("undo", x.undo(), 0);
        DUE.is("WIND", x.rule(0), 3);
        // an IMAGE of what is UNDONE then
        x.wind(2);
        x.image();
        x.undo();
        DUE.is("WIND", x.rule(0), 3);
        x.back();
        DUE.is("WIND of the IMAGE", x.rule(0), 2);
        DUE.is("undo", x.undo(), -1);
        DUE.is("image is no ACT", x.count(8), 0);
    }

    /** Another ISLAND has none of these; what is refused leaves them. */
    private static void imagesOfOthers() {
        RememberedWeight x = Due.island("p;p;p");
        x.hours(3);
        x.image();
        Due.feed(x, "p");
        DUE.is("one alone", x.text(0), -1);
        DUE.is("back", x.back(), 3);
        x.hours(1);
        Due.feed(x, ";p");
        DUE.is("another one", x.text(0), 2);
        DUE.is("no IMAGE of it", x.back(), -1);
        DUE.is("count(4)", x.count(4), 0);
        DUE.is("undo", x.undo(), -1);
        DUE.is("log(0, 0)", x.log(0, 0), -1);
        x.hours(2);
        DUE.is("image", x.image(), 2);
        Due.feed(x, "p;p");
        DUE.is("the same one once more", x.text(0), 2);
        DUE.is("no IMAGE of it", x.back(), -1);
    }
}
