/** Promises 7 to 10, 21, 24, 36: the bounds of numbers: of LAWS, MASS, WEIGHT, HEFT, GRAIN, who FLOATS, who SINKS. */
public final class NumberBoundsTest {
    private static final Due DUE = new Due("NumberBoundsTest");
    private static final int LIMIT = 1000000;

    public static void main(String[] args) {
        highestNumbers();
        lowestNumbers();
        numbersBehindEachSign();
        truths();
        quotients();
        worthHeld();
        largestLaws();
        ages();
        hoursOfTheDay();
        windAndDeep();
        massesRounded();
        sumsRounded();
        loadsRounded();
        edges();
        powersOfTwo();
        aroundTwoToThe24();
        weightAsTold();
        floating();
        sinking();
        minds();
        DUE.finish();
    }

    /** Of STRENGTH 5 in the MIND of somebody who is 1 DEEP. */
    private static void worth(String law, long worth) {
        DUE.is("WORTH by " + law, Due.island("pd1;p;ts5", law).thought(0, 0, 4), worth);
    }

    /** A SUM by which just this number comes out, 0 or more. */
    private static String number(int v) {
        return v < 10000 ? "" + v : "9999*" + v / 9999 + "+" + v % 9999;
    }

    private static long rounded(long n) {
        return (long) (float) n;
    }

    private static void highestNumbers() {
        worth("y:1000*1000", LIMIT);
        worth("y:1000*1000-1", LIMIT - 1);
        worth("y:999*1000+999", LIMIT - 1);
        worth("y:999*1000+1000", LIMIT);
        worth("y:999*1000+1000-1", LIMIT - 1);
        worth("y:999*1000+1001", LIMIT);
        worth("y:999*1000+1001-1", LIMIT - 1);
        worth("y:1000*1000+1-1", LIMIT - 1);
        worth("y:1000*1000-1+1", LIMIT);
        worth("y:1000*1001-1", LIMIT - 1);
        worth("y:9999*9999-1", LIMIT - 1);
        worth("y:9999*9999*9999-1", LIMIT - 1);
        worth("y:9999*9999*[9999*9999]-1", LIMIT - 1);
        worth("y:[9999*9999]*[9999*9999]*[9999*9999]/2", LIMIT / 2);
        worth("y:9999*9999+9999*9999-9999*9999", 0);
        worth("y:9999*9999-[0-9999*9999]-1", LIMIT - 1);
    }

    private static void lowestNumbers() {
        worth("y:0-1000*1000+1000*1000", 0);
        worth("y:0-1000*1000-1+1000*1000", 0);
        worth("y:0-999*1000-1000+1000*1000", 0);
        worth("y:0-999*1000-999+1000*1000", 1);
        worth("y:0-999*1000-1001+1000*1000", 0);
        worth("y:[0-1000]*1000+1000*1000", 0);
        worth("y:[0-999]*1000+1000*1000", 1000);
        worth("y:[0-1001]*1000+1000*1000", 0);
        worth("y:[0-9999]*9999+1000*1000+3", 3);
        worth("y:9999*[0-9999]+1000*1000+3", 3);
        worth("y:0-9999*9999-9999*9999+1000*1000+3", 3);
        worth("y:[0-9999*9999]+[0-9999*9999]+1000*1000+3", 3);
        worth("y:[0-1000]*[0-1000]-1", LIMIT - 1);
        worth("y:[0-1000]*[0-1001]-1", LIMIT - 1);
        worth("y:[0-9999*9999]*[0-9999*9999]-1", LIMIT - 1);
    }

    private static void numbersBehindEachSign() {
        worth("y:9999*9999=1000*1000?1;y:2", 1);
        worth("y:9999*9999>1000*1000?1;y:2", 2);
        worth("y:1000*1000<9999*9999?1;y:2", 2);
        worth("y:1000*1000-1<9999*9999?1;y:2", 1);
        worth("y:0-9999*9999=0-1000*1000?1;y:2", 1);
        worth("y:0-9999*9999-9999*9999<0-1000*1000?1;y:2", 2);
        worth("y:0-9999*9999-9999*9999<0-999*1000-999?1;y:2", 1);
        for (int v = -3; v <= 3; v++) {
            for (int w = -3; w <= 3; w++) {
                String left = "[3-" + (3 - v) + "]";
                String right = "[3-" + (3 - w) + "]";
                worth("y:" + left + "=" + right + "?1;y:2", v == w ? 1 : 2);
                worth("y:" + left + "<" + right + "?1;y:2", v < w ? 1 : 2);
                worth("y:" + left + ">" + right + "?1;y:2", v > w ? 1 : 2);
                worth("y:" + left + "*" + right + "+9", v * w + 9);
                worth("y:" + left + "+" + right + "+9", v + w + 9);
                worth("y:" + left + "-" + right + "+9", v - w + 9);
                worth("y:" + left + "/" + right + "+9", (w == 0 ? 0 : v / w) + 9);
            }
        }
    }

    /** ! & | of what holds and what does not, and of what they make. */
    private static void truths() {
        String[] units = {"s=5", "s=4", "!s=4", "!s=5", "!!s=5", "(s=5|s=4)", "(s=5&s=4)", "!(s=5&s=4)", "!(s=5|s=4)", "!!!s=4", "s>4", "s<5"};
        boolean[] so = {true, false, true, false, true, true, false, true, false, true, true, false};
        for (int i = 0; i < units.length; i++) {
            worth("y:" + units[i] + "?1;y:2", so[i] ? 1 : 2);
            for (int j = 0; j < units.length; j++) {
                worth("y:" + units[i] + "&" + units[j] + "?1;y:2", so[i] && so[j] ? 1 : 2);
                worth("y:" + units[i] + "|" + units[j] + "?1;y:2", so[i] || so[j] ? 1 : 2);
                worth("y:!(" + units[i] + "&" + units[j] + ")?1;y:2", so[i] && so[j] ? 2 : 1);
                for (int k = 0; k < 4; k++) {
                    worth("y:" + units[k] + "|" + units[i] + "&" + units[j] + "?1;y:2", so[k] || so[i] && so[j] ? 1 : 2);
                    worth("y:" + units[i] + "&" + units[j] + "|" + units[k] + "?1;y:2", so[k] || so[i] && so[j] ? 1 : 2);
                }
            }
        }
    }

    private static void quotients() {
        worth("y:7/2", 3);
        worth("y:7/8", 0);
        worth("y:9/3", 3);
        worth("y:[0-7]/2+9", 6);
        worth("y:7/[0-2]+9", 6);
        worth("y:[0-7]/[0-2]", 3);
        worth("y:[0-1]/2+9", 9);
        worth("y:1/[0-2]+9", 9);
        worth("y:0/0+9", 9);
        worth("y:7/0+9", 9);
        worth("y:[0-7]/0+9", 9);
        worth("y:9999*9999/0+9", 9);
        worth("y:9/[s-5]", 0);
        worth("y:9/[s-5]+4/0*3+2", 2);
        worth("y:[0-9999*9999]/[0-1]", LIMIT);
        worth("y:7/0=0?1;y:2", 1);
    }

    /** WORTH is held within 0 .. 1,000,000; of nothing it is 0. */
    private static void worthHeld() {
        worth("y:0", 0);
        worth("y:1", 1);
        worth("y:0-1", 0);
        worth("y:0-9999*9999", 0);
        worth("y:9999*9999", LIMIT);
        worth("y:s=4?7", 0);
        worth("y:s=4?7;y:s=6?8", 0);
        worth("y:s=5?7;y:s=5?8", 7);
        worth("y:s=4?7;y:s=5?8;y:9", 8);
        worth("y:s=4?7;y:s=4?8;y:9", 9);
        worth("y:s=5?0-1;y:9", 0);
        DUE.is("the most", Due.island("pd99;p;t", "y:9999*9999").thought(0, 0, 4), 99L * LIMIT);
        DUE.is("one less", Due.island("pd99;p;t", "y:9999*9999-1").thought(0, 0, 4), rounded(99L * (LIMIT - 1)));
        DUE.is("less than nothing", Due.island("pd99;p;t", "y:0-9999*9999").thought(0, 0, 4), 0);
    }

    /** As much as six within one another and 240 bytes let lie ahead of what is not reckoned yet. */
    private static void largestLaws() {
        worth("y:1+[1+[1+[1+[1+[1+[1]]]]]]", 7);
        worth("y:1+2*[1+2*[1+2*[1+2*[1+2*[1+2*[1+2]]]]]]", 255);
        worth("y:9-[8-[7-[6-[5-[4-[3-2*1]]]]]]", 9 - (8 - (7 - (6 - (5 - (4 - (3 - 2)))))));
        String last = "s=1+2*[1+2*[1+2*[1+2*[1+2*[1+2*[1]]]]]]";
        worth("y:s=1|k=0&" + last + "?1;y:2", 2);
        worth("y:s=5|k=0&" + last + "?1;y:2", 1);
        String deep = "s=4|s=5&(s=4|s=5&(s=4|s=5&(s=4|s=5&(s=4|s=5&(s=4|s=5&s=1+4*1)))))";
        worth("y:" + deep + "?1;y:2", 1);
        worth("y:" + deep.replace("1+4*1", "1+5*1") + "?1;y:2", 2);
        worth("y:!(!(!(s=4|s=5&k=0)))?1;y:2", 2);
        worth("y:!!!!!!s=5?1;y:2", 1);
        worth("y:!!!!!s=5?1;y:2", 2);
        worth("y:9999" + "+9999".repeat(46) + "*1", 47 * 9999);
        worth("y:9999" + "-1".repeat(117) + "*1", 9999 - 117);
        worth("y:1" + "*1".repeat(118), 1);
        worth("y:s=1" + "|s=1".repeat(57) + "?1;y:2", 2);
        worth("y:s=1" + "|s=1".repeat(56) + "|s=5?1;y:2", 1);
        worth("y:s=5" + "&s=5".repeat(57) + "?1;y:2", 1);
        worth("y:s=5" + "&s=5".repeat(56) + "&s=1?1;y:2", 2);
    }

    /** 100,000 times STRENGTH by AGE and 1, cut; an AGE is 99 at most. */
    private static void ages() {
        for (int strength = 1; strength <= 9; strength++) {
            RememberedWeight x = Due.island("pd7;p;ts" + strength);
            for (int hour = 0; hour <= 102; hour++) {
                int age = Math.min(hour, 99);
                DUE.is("AGE behind " + hour, x.thought(0, 0, 3), age);
                DUE.is("MASS behind " + hour, x.thought(0, 0, 4), 100000 * strength / (age + 1) * 7);
                x.hours(1);
            }
        }
        RememberedWeight x = Due.island("pd1;p;t", "y:a+1");
        for (int n : new int[] {60, 38, 1, 1, 60}) {
            x.hours(n);
            DUE.is("a", x.thought(0, 0, 4), Math.min(x.count(4), 99) + 1);
        }
        DUE.is("a in HOURS to come", x.behind(1, 60), 9000 + 100);
        DUE.is("OLDEST", x.most(9), 99);
    }

    private static void hoursOfTheDay() {
        RememberedWeight x = Due.island("pd1;p;t", "y:h+1");
        for (int hour = 0; hour <= 73; hour++) {
            DUE.is("h at HOUR " + hour, x.thought(0, 0, 4), hour % 24 + 1);
            DUE.is("h an HOUR later", x.behind(1, 1), 9000 + (hour + 1) % 24 + 1);
            x.hours(1);
        }
        while (x.count(4) < 9999) {
            x.hours(Math.min(60, 9999 - x.count(4)));
        }
        for (int n = 0; n <= 60; n++) {
            DUE.is("h " + n + " HOURS behind the last one", x.behind(1, n), 9000 + (9999 + n) % 24 + 1);
        }
    }

    private static void windAndDeep() {
        for (int wind = 0; wind <= 9; wind++) {
            DUE.is("w", Due.island("sw" + wind + ";pd1;p;t", "y:w+1").thought(0, 0, 4), wind + 1);
        }
        for (int deep : new int[] {1, 2, 98, 99}) {
            DUE.is("d", Due.island("pd" + deep + ";p;t", "y:d").thought(0, 0, 4), deep * deep);
        }
        for (int kind = 0; kind <= 2; kind++) {
            DUE.is("k", Due.island("pd1;p;tk" + kind, "y:k+1").thought(0, 0, 4), kind + 1);
        }
        for (int strength = 1; strength <= 9; strength++) {
            DUE.is("s", Due.island("pd1;p;ts" + strength, "y:s").thought(0, 0, 4), strength);
        }
    }

    /** Just around where MASSES get one binary digit more than 24, 25, 26. */
    private static void massesRounded() {
        for (int deep = 17; deep <= 99; deep++) {
            for (int digits = 24; digits <= 26; digits++) {
                long edge = (1L << digits) / deep;
                for (long worth = edge - 3; worth <= edge + 4; worth++) {
                    if (worth <= LIMIT) {
                        RememberedWeight x = Due.island("pd" + deep + ";p;t", "y:" + number((int) worth));
                        DUE.is(worth + " times " + deep, x.thought(0, 0, 4), rounded(worth * deep));
                    }
                }
            }
        }
    }

    /** Much, and then a little: 99,000,000 so many times, and a number of one who is 1 DEEP. */
    private static void sumsRounded() {
        for (int heavy : new int[] {0, 1, 2, 3, 5, 6, 11, 12, 20, 24}) {
            for (int little = 0; little <= 300; little += heavy < 6 ? 1 : 13) {
                RememberedWeight x = Due.island("pb7;pd99;pd99;pd99;pd99;pd99;pd99;pd1", "y:d=99?9999*9999;y:" + little);
                long due = 7000;
                for (int i = 0; i < heavy; i++) {
                    x.think(1 + i / 4, 0, 0, 1);
                    due = rounded(due + 99L * LIMIT);
                }
                x.think(7, 0, 0, 1);
                DUE.is(heavy + " and " + little, Due.person(x, 0, 3), Math.min(rounded(due + little), 2147483647L));
            }
        }
    }

    /** From a little below each power of two to a little above it: there a number gets one binary digit more. */
    private static void edges() {
        for (int digits = 24; digits <= 31; digits++) {
            long edge = 1L << digits;
            long sum = 1000;
            int heavy = 0;
            while (sum + 99L * LIMIT < edge) {
                sum = rounded(sum + 99L * LIMIT);
                heavy++;
            }
            int tuned = (int) Math.max(0, (edge - sum - 500000) / 99);
            sum = rounded(sum + rounded(99L * tuned));
            int step = digits < 28 ? 1 : 1 << digits - 28;
            for (int r = -24 * step; r <= 40 * step; r += step) {
                long little = edge - sum + r;
                RememberedWeight x = Due.island("pb1;pd99;pd99;pd99;pd99;pd99;pd99;pd1",
                        "y:s=9?9999*9999;y:s=8?" + number(tuned) + ";y:" + number((int) little));
                for (int i = 0; i <= heavy; i++) {
                    x.think(1 + i / 4, 0, 0, i < heavy ? 9 : 8);
                }
                x.think(7, 0, 0, 1);
                long due = rounded(sum + little);
                String name = "2 to the " + digits + " and " + r;
                DUE.is(name, Due.person(x, 0, 3), Math.min(due, 2147483647L));
                int heft = 63 - Long.numberOfLeadingZeros(due);
                DUE.is("HEFT of " + name, Due.person(x, 0, 4), heft);
                DUE.is("GRAIN of " + name, Due.person(x, 0, 5), (heft > 23 ? due >> heft - 23 : due << 23 - heft) - (1 << 23));
            }
        }
    }

    private static void loadsRounded() {
        for (int first = 1; first <= 40; first++) {
            RememberedWeight x = Due.island("pb1d99;pb" + first + "d99;pb9;to1;ta1o0", "y:9999*16+" + (9000 + 7 * first));
            long mass = rounded((9999L * 16 + 9000 + 7 * first) * 99);
            long one = rounded(1000 + mass);
            long other = rounded(1000 * first + mass);
            DUE.is("load(1)", x.load(1), one);
            DUE.is("load(2)", x.load(2), other);
            DUE.is("load(3)", x.load(3), rounded(one + other));
            DUE.is("load(7)", x.load(7), rounded(rounded(one + other) + 9000));
            DUE.is("load(5)", x.load(5), rounded(one + 9000));
        }
    }

    /** HEFT and GRAIN just at a power of two and one less. */
    private static void powersOfTwo() {
        for (int k = 10; k <= 19; k++) {
            RememberedWeight at = Due.island("pd1;pb1;t", "y:" + number((1 << k) - 1000));
            DUE.is("WEIGHT 2 to the " + k, Due.person(at, 1, 3), 1 << k);
            DUE.is("HEFT", Due.person(at, 1, 4), k);
            DUE.is("GRAIN", Due.person(at, 1, 5), 0);
            RememberedWeight more = Due.island("pd1;pb1;t", "y:" + number((1 << k) - 999));
            DUE.is("HEFT of one more", Due.person(more, 1, 4), k);
            DUE.is("GRAIN of one more", Due.person(more, 1, 5), 1 << 23 - k);
            RememberedWeight less = Due.island("pd1;pb1;t", "y:" + number((1 << k) - 1001));
            DUE.is("HEFT of one less", Due.person(less, 1, 4), k - 1);
            DUE.is("GRAIN of one less", Due.person(less, 1, 5), (1 << 23) - (1 << 24 - k));
        }
        DUE.is("HEFT of 1,000", Due.person(Due.island("pb1;p"), 0, 4), 9);
        DUE.is("GRAIN of 1,000", Due.person(Due.island("pb1;p"), 0, 5), 1000 - 512 << 14);
    }

    /** WEIGHT by 99 times a number and 1,000 times BODY. */
    private static void weight(int body, int worth, long due) {
        RememberedWeight x = Due.island("pb" + body + ";pd99;ta1o0", "y:" + number(worth));
        DUE.is(1000 * body + " and 99 times " + worth, Due.person(x, 0, 3), due);
        int heft = 63 - Long.numberOfLeadingZeros(due);
        DUE.is("HEFT of " + due, Due.person(x, 0, 4), heft);
        DUE.is("GRAIN of " + due, Due.person(x, 0, 5), (due >> heft - 23) - (1 << 23));
    }

    private static void aroundTwoToThe24() {
        // 24 digits are as they are: 16,777,215
        weight(91, 168546, 91000 + 99 * 168546);
        weight(18, 169285, 16777215);
        weight(28, 169184, 16777216);
        weight(38, 169083, 16777216);
        weight(48, 168982, 16777218);
        weight(58, 168881, 16777220);
        weight(68, 168780, 16777220);
        weight(78, 168679, 16777220);
        weight(88, 168578, 16777222);
        weight(98, 168477, 16777224);
    }

    /** 2,147,483,647 at most as told; HEFT, GRAIN go by it as it is. */
    private static void weightAsTold() {
        asTold(1805, 2147483520L, 30, 8388607);
        asTold(1807, 2147483647L, 31, 0);
        asTold(1809, 2147483647L, 31, 1);
        asTold(9000, 2147483647L, 31, (int) ((rounded(2079001600L + rounded(99L * (689931 + 9000))) >> 8) - (1 << 23)));
    }

    /** 21 times 99,000,000 and a 22nd of 99 times 689,931 and so much. */
    private static void asTold(int more, long told, int heft, int grain) {
        RememberedWeight x = Due.island("pb1;pd99;pd99;pd99;pd99;pd99;pd99", "y:s=9?9999*9999;y:9999*69+" + more);
        for (int i = 0; i < 22; i++) {
            x.think(1 + i / 4, 0, 0, i < 21 ? 9 : 1);
        }
        DUE.is("WEIGHT", Due.person(x, 0, 3), told);
        DUE.is("HEFT", Due.person(x, 0, 4), heft);
        DUE.is("GRAIN", Due.person(x, 0, 5), grain);
        DUE.is("BEHIND", x.behind(0, 0), told);
        DUE.is("BEHIND 60", x.behind(0, 60), told);
        DUE.is("LOAD", x.load(1), told);
        DUE.is("LOAD of two", x.load(3), 2147483647L);
        DUE.is("LOAD of all others", x.load(126), 54000);
        DUE.is("SHARES", x.shares(0, 999), 999 * told / (told + 54000));
        DUE.is("SHARES", x.shares(1, 999), 0);
        DUE.is("HEAVIEST", x.most(0), 0);
        DUE.is("SINKS", x.most(5), 1);
        DUE.is("FLOATS", x.most(4), 126);
    }

    /** Less than 10,000 times WIND: just as much does not FLOAT. */
    private static void floating() {
        for (int wind = 0; wind <= 9; wind++) {
            int body = Math.max(1, 10 * wind);
            RememberedWeight x = Due.island("sw" + wind + ";pb" + body + ";pb" + Math.max(1, body - 1) + ";pb99;pb1");
            int due = wind == 0 ? 0 : 2 + 8;
            DUE.is("FLOATING in WIND " + wind, x.most(4), due);
            DUE.is("floatsIn", x.floatsIn(0), -1);
            DUE.is("floatsIn", x.floatsIn(1), wind == 0 ? -1 : 0);
            DUE.is("held", x.held(0), 0);
            DUE.is("odds", x.odds(0, 0, 0), 0);
            DUE.is("odds", x.odds(1, 0, 0), wind == 0 ? 0 : 1000000000);
            // 2 more for one who FLOATS; 99,000 has HEFT 16, 1,000 has HEFT 9
            DUE.is("game", x.game(2, 0, 0, 0, 0), 16 - Due.person(x, 0, 4));
            DUE.is("game", x.game(2, 3, 0, 0, 0), wind == 0 ? 7 : 9);
            x.hours(1);
            DUE.is("LOG", x.log(0, 0), due);
            x.hem(1, 1);
            DUE.is("FLOATING with a stone", x.most(4), wind == 0 ? 0 : 8);
        }
        for (int wind = 1; wind <= 9; wind++) {
            for (int less = 0; less <= 2; less++) {
                RememberedWeight x = Due.island("sw" + wind + ";pd1;pb1;t", "y:" + number(10000 * wind - 1000 - less));
                DUE.is("WEIGHT", Due.person(x, 1, 3), 10000 * wind - less);
                DUE.is("FLOATS with " + less + " less", x.most(4) >> 1, less == 0 ? 0 : 1);
                DUE.is("game", x.game(0, 1, 0, 0, 0), 13 - Due.person(x, 1, 4) + (less == 0 ? 0 : 2));
                DUE.is("held", x.held(1), less == 0 ? 0 : 1);
            }
        }
        // 29,999 30,000
        DUE.is("one less", Due.island("pd1;pb1;pd1;t;ta2o1", "y:9999+4500+[s-3]").most(4), 7);
        DUE.is("just as much", Due.island("pd1;pb1;pd1;t;ta2o1s4", "y:9999+4500+[s-3]*2").most(4), 5);
    }

    /** More than 1,000,000 times GROUND: just as much does not SINK. */
    private static void sinking() {
        String[] grounds = {"1", "50", "99"};
        int[] bodies = {1, 50, 99};
        for (int i = 0; i < 3; i++) {
            String island = "sg" + grounds[i] + ";pd" + bodies[i] + ";pb" + bodies[i] + ";t";
            // as many times 1,000 and as many times 999,000
            RememberedWeight x = Due.island(island, "y:999*1000");
            DUE.is("WEIGHT", Due.person(x, 1, 3), 1000000L * bodies[i]);
            DUE.is("just as much", x.most(5), 0);
            DUE.is("eased", x.eased(1), 0);
            x.hours(1);
            DUE.is("LOG", x.log(0, 1), 0);
            RememberedWeight y = Due.island(island, "y:999*1000+1");
            DUE.is("more", y.most(5), 2);
            DUE.is("eased", y.eased(1), 1);
            y.hours(1);
            DUE.is("LOG", y.log(0, 1), 2);
        }
    }

    private static void minds() {
        boolean[][] goes = {{true, true, true}, {true, true, false}, {false, false, true}};
        for (int mind = 0; mind <= 2; mind++) {
            for (int kind = 0; kind <= 2; kind++) {
                RememberedWeight x = Due.island("pm" + mind + ";p");
                DUE.is("goes", x.goes(0, kind), goes[mind][kind] ? 1 : 0);
                for (int place = 0; place < 4; place++) {
                    DUE.is("place", x.think(0, 1, kind, 1), goes[mind][kind] ? place : -1);
                }
                DUE.is("no fifth", x.think(0, 1, kind, 1), -1);
                DUE.is("goes into a full MIND, too", x.goes(0, kind), goes[mind][kind] ? 1 : 0);
                DUE.is("status(2)", x.status(2), goes[mind][kind] ? 0 : 5);
                DUE.is("status(3)", x.status(3), goes[mind][kind] ? 1 : 0);
            }
        }
    }
}
