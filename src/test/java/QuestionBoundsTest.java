import java.util.List;

/** Promises 22 to 36: the bounds of what is asked: apart, at the bridge, of riddles, games, odds, shares, who is most. */
public final class QuestionBoundsTest {
    private static final Due DUE = new Due("QuestionBoundsTest");
    private static final String EIGHT = "pb1d1;pb1d1;pb1d1;pb1d1;pb1d1;pb1d1;pb1d1;pb1d1";
    private static final int ALL_PARTS = 1000000000;

    public static void main(String[] args) {
        nothingChanges();
        floatsIn();
        behindTheLastHour();
        loads();
        borneJust();
        borneAsRounded();
        together();
        goings();
        held();
        heldBySome();
        heldInPlaces();
        heldBesideFullMinds();
        eased();
        easedByMass();
        tenSeen();
        seenBounds();
        allFits();
        fitsOfEach();
        fitsAmongOthers();
        fitsAsTold();
        asks();
        askedOfAll();
        askedByPlace();
        moves();
        rests();
        odds();
        oddsOfTunes();
        shares();
        ofSeveralTheLowest();
        thoughtsAndMinds();
        lastPlace();
        pairs();
        DUE.finish();
    }

    /** A SUM by which just this number comes out, 0 or more. */
    private static String number(int v) {
        return v < 10000 ? "" + v : "9999*" + v / 9999 + "+" + v % 9999;
    }

    /** All that is asked is asked apart. */
    private static void nothingChanges() {
        RememberedWeight x = Due.island("sw5g1b2k9;pd9;pm1;pm2;pb5;ta0o1s5;ta0o1s1;ta0o2k1s1;ta0o2k2s1;ta1o0s2;ta2o0k2s4",
                "y:s*1000*[99-a]");
        x.hours(2);
        x.hem(1, 1);
        x.think(3, 0, 2, 3);
        x.seen(0, 1, 9, true);
        List<Long> whole = Whole.of(x);
        for (int person = 0; person < 4; person++) {
            x.behind(person, 60);
            x.floatsIn(person);
            x.held(person);
            x.eased(person);
            x.ask(person);
            x.odds(person, 6, 50);
            x.shares(person, 999);
            x.rests(person, (person + 1) % 4, -1);
            for (int move = 0; move <= 2; move++) {
                x.game(person, (person + 1) % 4, move, 2 - move, 0);
            }
        }
        x.load(15);
        x.together();
        x.goings();
        x.fits(0);
        for (int what = 0; what <= 10; what++) {
            x.most(what);
        }
        DUE.is("all is as it was", Whole.of(x).equals(whole), true);
        DUE.is("count(8)", x.count(8), 4);
        for (int i = 0; i < 5; i++) {
            DUE.is("status", x.status(i), 0);
        }
    }

    /** 0 .. 99 HOURS. */
    private static void floatsIn() {
        for (int hours = 0; hours <= 99; hours++) {
            RememberedWeight x = Due.island("sw1;pd1;pb1d1;t", "y:a<" + hours + "?9000;y:8999");
            DUE.is("floatsIn(1) within 99", x.floatsIn(1), hours);
        }
        // AGE is 99 behind 99 HOURS and more: h alone tells that 100 have gone by
        String law = "y:a<99?9000;y:h=4?8999;y:9000";
        DUE.is("in 100, which is not within 99", Due.island("sw1;pd1;pb1d1;t", law).floatsIn(1), -1);
        RememberedWeight x = Due.island("sw1;pd1;pb1d1;t", law);
        x.hours(1);
        DUE.is("in 99", x.floatsIn(1), 99);
        x.hours(60);
        DUE.is("in 39", x.floatsIn(1), 39);
        x.hours(39);
        DUE.is("now", x.floatsIn(1), 0);
        DUE.is("nobody FLOATS without WIND", Due.island("sw0;pb1;p").floatsIn(0), -1);
    }

    /** In what is asked apart HOURS go on behind 9,999. */
    private static void behindTheLastHour() {
        // 9,999 is 15 modulo 24
        RememberedWeight x = Due.island("sw1;pd9;pb1;pd1", "y:h=16?1;y:h=20?0;y:1000");
        for (int i = 0; i < 166; i++) {
            x.hours(60);
        }
        x.hours(39);
        DUE.is("count(4)", x.count(4), 9999);
        x.think(0, 1, 2, 1);
        DUE.is("now", x.behind(1, 0), 10000);
        DUE.is("at 16", x.behind(1, 1), 1009);
        DUE.is("at 20", x.behind(1, 5), 1000);
        DUE.is("forgotten", x.behind(1, 6), 1000);
        DUE.is("FLOATS in one", x.floatsIn(1), 1);
        DUE.is("odds of none", x.odds(1, 0, 0), 0);
        DUE.is("odds of one", x.odds(1, 1, 0), ALL_PARTS);
        DUE.is("odds of two", x.odds(1, 2, 0), 0);
        DUE.is("odds of six", x.odds(1, 6, 100), ALL_PARTS);
        DUE.is("yet none goes by", x.hours(1), -1);
    }

    private static void loads() {
        int[] bodies = {1, 2, 4, 8, 16, 32, 64, 99};
        StringBuilder text = new StringBuilder();
        for (int body : bodies) {
            text.append(text.length() == 0 ? "pb" : ";pb").append(body);
        }
        RememberedWeight x = Due.island(text.toString());
        for (int some = 0; some < 256; some++) {
            DUE.is("load(" + some + ")", x.load(some), 1000 * ((some & 127) + (some >= 128 ? 99 : 0)));
        }
        for (int wrong : new int[] {256, 257, 511, 512, 1 << 30, Integer.MAX_VALUE, -1, -256, Integer.MIN_VALUE}) {
            DUE.is("load(" + wrong + ")", x.load(wrong), -1);
        }
        RememberedWeight six = Due.island("pb1;pb2;pb4;pb8;pb16;pb32");
        DUE.is("all six", six.load(63), 63000);
        DUE.is("a seventh", six.load(64), -1);
        DUE.is("a seventh and others", six.load(127), -1);
    }

    /** 1,000,000 times BRIDGE or less. */
    private static void borneJust() {
        String[] bridges = {"1", "50", "99"};
        int[] bodies = {1, 50, 99};
        for (int i = 0; i < 3; i++) {
            String island = "sb" + bridges[i] + ";pd" + bodies[i] + ";pb" + bodies[i] + ";t";
            RememberedWeight x = Due.island(island, "y:999*1000");
            DUE.is("LOAD", x.load(2), 1000000 * bodies[i]);
            DUE.is("just as much", x.goings(), 2);
            DUE.is("one of two alike, the least bits", x.together(), 1);
            RememberedWeight y = Due.island(island, "y:999*1000+1");
            DUE.is("more", y.goings(), -1);
            DUE.is("the other one alone", y.together(), 1);
        }
        RememberedWeight none = Due.island("sb1;pd99;pd99;t;ta1o0");
        DUE.is("it bears nobody", none.together(), 0);
        DUE.is("it bears nobody", none.goings(), -1);
        RememberedWeight last = Due.island("sb1;p;p;p;p;p;p;p;p;ta6o7");
        DUE.is("all but the last one", last.together(), 127);
        DUE.is("the last one not alone", last.goings(), -1);
        RememberedWeight first = Due.island("sb1;p;p;p;p;p;p;p;p;ta1o0");
        DUE.is("all but the first one", first.together(), 254);
        DUE.is("the first one not alone", first.goings(), -1);
    }

    /** 98,991,000 and 9,003 .. 9,005: a LOAD goes by eights; of two as near the even one, 99,000,000. */
    private static void borneAsRounded() {
        for (int more = 0; more <= 8; more++) {
            RememberedWeight x = Due.island("sb99;pb90d1;pb9d99;to1;ta1o0s9", "y:s=9?999*1000;y:" + more);
            DUE.is("one", x.load(1), 98991000);
            DUE.is("other", x.load(2), 9000 + more);
            DUE.is("both", x.load(3), more <= 4 ? 99000000 : 99000008);
            DUE.is("together", x.together(), more <= 4 ? 3 : 1);
            DUE.is("goings", x.goings(), more <= 4 ? 1 : 2);
        }
    }

    /** Eight of 1,000,000 by k each: k of them just are borne, those of the least bits. */
    private static void together() {
        for (int k = 1; k <= 8; k++) {
            for (int more = 0; more <= 1; more++) {
                int weight = 1000000 / k + more;
                int atOnce = 1000000 / weight;
                for (int persons = 2; persons <= 8; persons++) {
                    RememberedWeight x = alike(persons, weight);
                    int some = Math.min(atOnce, persons);
                    DUE.is("together of " + weight, x.together(), (1 << some) - 1);
                    DUE.is("goings of " + weight, x.goings(), some == 0 ? -1 : (persons + some - 1) / some);
                }
            }
        }
        // one is heavier: those who are without him are of lower bits, or not
        for (int heavy = 0; heavy < 8; heavy++) {
            RememberedWeight x = Due.island("sb1;" + EIGHT + thoughtsOfAll(heavy), "y:s=4?" + number(124001) + ";y:" + number(124000));
            DUE.is("seven without " + heavy + " or with him", x.together(), 127);
            DUE.is("goings", x.goings(), 2);
            RememberedWeight y = Due.island("sb1;" + EIGHT + thoughtsOfAll(heavy), "y:s=4?" + number(249001) + ";y:" + number(124000));
            DUE.is("seven without " + heavy, y.together(), 255 - (1 << heavy));
        }
    }

    /** Each is thought of by another one, with STRENGTH 3; this one with STRENGTH 4. */
    private static String thoughtsOfAll(int strong) {
        StringBuilder text = new StringBuilder();
        for (int i = 0; i < 8; i++) {
            text.append(";ta").append((i + 1) % 8).append("o").append(i).append(i == strong ? "s4" : "");
        }
        return text.toString();
    }

    private static RememberedWeight alike(int persons, int weight) {
        StringBuilder text = new StringBuilder("sb1");
        for (int i = 0; i < persons; i++) {
            text.append(";pb1d1");
        }
        for (int i = 0; i < persons; i++) {
            text.append(";ta").append((i + 1) % persons).append("o").append(i);
        }
        return Due.island(text.toString(), "y:" + number(weight - 1000));
    }

    /** Not one behind the other as there is room: 500 400 500 600, and 4 times two that are 1,000 together. */
    private static void goings() {
        int[][] strengths = {{5, 4, 5, 6}, {1, 2, 3, 4, 6, 7, 8, 9}, {9, 9, 9, 1, 1, 1}, {5, 5, 5, 5, 5}, {3, 3, 3, 3, 3, 3, 3}, {2, 8},
            {6, 6, 2, 2, 2, 2}, {7, 6, 5, 4, 3, 3, 2}};
        int[] due = {2, 4, 3, 3, 3, 1, 2, 3};
        for (int i = 0; i < strengths.length; i++) {
            int n = strengths[i].length;
            StringBuilder text = new StringBuilder("sb1");
            for (int j = 0; j < n; j++) {
                text.append(";pb1d1");
            }
            for (int j = 0; j < n; j++) {
                text.append(";ta").append((j + 1) % n).append("o").append(j).append("s").append(strengths[i][j]);
            }
            DUE.is("goings " + i, Due.island(text.toString(), "y:1000*s*100-1000").goings(), due[i]);
        }
    }

    /** Of eight, in WIND 9: as many as are needed for 89,000, the lowest ones but oneself. */
    private static void held() {
        for (int needed = 1; needed <= 8; needed++) {
            int mass = (89000 + needed - 1) / needed;
            for (int person = 0; person < 8; person++) {
                RememberedWeight x = Due.island("sw9;" + EIGHT, "y:s=5&k=0&a=0&d=1?" + number(mass) + ";y:0");
                int bits = 0;
                for (int i = 0; i < 8 && Integer.bitCount(bits) < needed; i++) {
                    bits |= i == person ? 0 : 1 << i;
                }
                DUE.is("held(" + person + ") by " + needed, x.held(person), needed == 8 ? -1 : bits);
            }
        }
        // just as much as it must be less than: it does not FLOAT then
        RememberedWeight just = Due.island("sw1;pb9d1;pb9d1", "y:1000");
        DUE.is("just so", just.held(0), 2);
        DUE.is("one less", Due.island("sw1;pb9d1;pb9d1", "y:999").held(0), -1);
        DUE.is("anyhow", Due.island("sw1;pb10d1;pb9d1", "y:1000").held(0), 0);
        DUE.is("FLOATS", Due.island("sw1;pb10d1;pb9d1", "y:1000").held(1), 1);
        DUE.is("without WIND", Due.island("sw0;p;p").held(0), 0);
    }

    /** By their DEPTHS: the fewest, of several the least bits. */
    private static void heldBySome() {
        // 89 of 1,000 are needed
        int[][] depths = {{1, 89, 88}, {1, 88, 89}, {1, 88, 88}, {1, 44, 45, 89}, {1, 44, 44, 1}, {1, 30, 59, 60, 29}, {1, 20, 30, 40, 50, 60},
            {1, 1, 1, 1, 1, 1, 1, 89}, {1, 88, 1, 1, 1, 1, 1, 1}, {1, 12, 13, 12, 13, 13, 13, 13}, {1, 12, 12, 12, 13, 13, 13, 13}};
        int[] due = {2, 4, 6, 8, 14, 6, 24, 128, 6, 254, -1};
        for (int i = 0; i < depths.length; i++) {
            StringBuilder text = new StringBuilder("sw9");
            for (int depth : depths[i]) {
                text.append(";pb1d").append(depth);
            }
            DUE.is("held(0) " + i, Due.island(text.toString(), "y:1000").held(0), due[i]);
        }
    }

    /** Into MINDS where it goes, with an empty place: of eight the even ones have none, or are full of tunes. */
    private static void heldInPlaces() {
        RememberedWeight x = Due.island("sw9;pb1d1;pb1d1;pb1d1m2;pb1d1;pb1d1;pb1d1;pb1d1m1;pb1d1" + ";ta1o3".repeat(4) + ";ta5o3".repeat(3),
                "y:k=0&s=5?" + number(29667) + ";y:0");
        DUE.is("not by 1, 2", x.held(0), 8 + 16 + 32);
        DUE.is("place of 5", x.think(5, 3, 0, 1), 3);
        DUE.is("not by 1, 2, 5", x.held(0), 8 + 16 + 64);
        DUE.is("forget", x.forget(1, 2), 3);
        DUE.is("not by 2, 5", x.held(0), 2 + 8 + 16);
        DUE.is("of another one", x.held(7), 1 + 2 + 8);
        x.think(1, 0, 0, 1);
        DUE.is("not by 1, 2, 5", x.held(7), 1 + 8 + 16);
    }

    /** MINDS 0, 1 are full: what lies in their last places stays there and stays of whom it is. */
    private static void heldBesideFullMinds() {
        String full = ";ta0o1".repeat(3) + ";ta1o0".repeat(4);
        String law = "y:s=5&k=0?7500;y:s=9?9999*3;y:1";
        // 1,000 and 29,997 of 90,000, and 59,003 to come: eight times 7,500 by those who are 1 2 3 4 1 DEEP
        RememberedWeight x = Due.island("sw9;pb1d1;pb1d1;pb1d1;pb1d2;pb1d3;pb1d4;pb1d1" + full + ";ta0o2s9", law);
        DUE.is("WEIGHT", Due.person(x, 2, 3), 30997);
        DUE.is("held(2) by 2, 3, 4 DEEP", x.held(2), 8 + 16 + 32);
        // of another one: all it weighs are 1,000
        RememberedWeight y = Due.island("sw9;pb1d1;pb1d1;pb1d1;pb1d2;pb1d3;pb1d4;pb1d1" + full + ";ta0o6s9", law);
        DUE.is("held(2) by none", y.held(2), -1);
        DUE.is("held(6) by 1, 3, 4 DEEP", y.held(6), 4 + 16 + 32);
    }

    /** One who SINKS is eased THOUGHT by THOUGHT until just as much as GROUND is left, or less. */
    private static void eased() {
        for (int thoughts = 0; thoughts <= 28; thoughts += 4) {
            for (int ground : new int[] {1, 2, 3, 12, 13, 27, 28, 29}) {
                RememberedWeight x = Due.island("sg" + ground + ";pb1;pd1;pd1;pd1;pd1;pd1;pd1;pd1", "y:999*1000");
                for (int i = 0; i < thoughts; i++) {
                    x.think(1 + i / 4, 0, i % 3, 1 + i % 9);
                }
                // 1,000 and 999,000 each: of as many as GROUND there is 1,000 too much, but of one alone
                int left = ground == 1 ? 1 : ground;
                DUE.is("eased of " + thoughts + " to " + ground, x.eased(0), Math.max(0, thoughts - left));
                DUE.is("WEIGHT", x.behind(0, 0), 1000 + 999000 * thoughts);
            }
        }
        DUE.is("just as much", Due.island("sg1;pd1;pb1;t", "y:999*1000").eased(1), 0);
        DUE.is("more", Due.island("sg1;pd1;pb1;t", "y:999*1000+1").eased(1), 1);
    }

    /** Most MASS first, wherever it lies: 1 .. 9 millions in some order. */
    private static void easedByMass() {
        int[][] strengths = {{1, 2, 3, 4}, {4, 3, 2, 1}, {2, 4, 1, 3}, {1, 9, 1, 1}, {5, 5, 5, 5}, {9, 8, 7, 6}};
        for (int[] strength : strengths) {
            for (int ground = 1; ground <= 31; ground++) {
                StringBuilder text = new StringBuilder("sg" + ground + ";pd1;pb1;pd1");
                for (int i = 0; i < 4; i++) {
                    text.append(";ta").append(i % 2 * 2).append("o1s").append(strength[i]);
                }
                // 100,000 each times ten: a million less a hundredth
                RememberedWeight x = Due.island(text.toString(), "y:s*9999*10");
                int[] left = strength.clone();
                java.util.Arrays.sort(left);
                int due = 0;
                while (1000 + 99990 * sum(left, 4 - due) > 1000000 * ground) {
                    due++;
                }
                DUE.is("eased to " + ground, x.eased(1), due);
            }
        }
        RememberedWeight x = Due.island("sg1;pd99;pb1;pd99;t;ta2o1;ta2o0;t", "y:9999*9999");
        DUE.is("those of one alone", x.eased(1), 3);
        DUE.is("of the other one", x.eased(0), 1);
    }

    private static int sum(int[] numbers, int n) {
        int sum = 0;
        for (int i = 0; i < n; i++) {
            sum += numbers[i];
        }
        return sum;
    }

    /** Each of ten counts, wherever it is told among them. */
    private static void tenSeen() {
        for (int which = 0; which < 10; which++) {
            for (int n = 0; n <= 8; n++) {
                RememberedWeight x = Due.island("p;p;pd1;pd1", "y:1000*[s+a]");
                for (int i = 0; i < 10; i++) {
                    // of 3 in the MIND of 2: 9,000 and 1,000 times STRENGTH and AGE; the others weigh 10,000 times these
                    boolean counts = i == which;
                    DUE.is("seen", counts ? x.seen(3, n, 9 + 5 + n, true) : x.seen(i % 4, i % 9, i, true), i + 1);
                }
                DUE.is("count(6)", x.count(6), 10);
                DUE.is("an eleventh", x.seen(0, 0, 9999, true), -1);
                DUE.is("count(6)", x.count(6), 10);
                // all 27 of 0, all of 1; of 2 STRENGTHS 5 .. 9
                DUE.is("fits with the " + which + "th behind " + n, x.fits(-1), 27 + 27 + 15);
            }
        }
    }

    /** Or more, or less; v from 0 to 9,999. */
    private static void seenBounds() {
        for (int strength = 1; strength <= 9; strength++) {
            RememberedWeight more = Due.island("pd1;pd1", "y:1000*s");
            more.seen(1, 0, 9 + strength, true);
            DUE.is("as much or more", more.fits(-1), 3 * (10 - strength));
            DUE.is("the first", more.fits(0), 100 + strength);
            RememberedWeight less = Due.island("pd1;pd1", "y:1000*s");
            less.seen(1, 0, 9 + strength, false);
            DUE.is("less", less.fits(-1), 3 * (strength - 1) + 27);
            RememberedWeight both = Due.island("pd1;pd1", "y:1000*s");
            both.seen(1, 0, 9 + strength, true);
            both.seen(1, 0, 10 + strength, false);
            DUE.is("just this one", both.fits(-1), 3);
            DUE.is("just this one", both.fits(2), 120 + strength);
            RememberedWeight none = Due.island("pd1;pd1", "y:1000*s+999");
            none.seen(1, 0, 9 + strength, true);
            none.seen(1, 0, 10 + strength, false);
            DUE.is("999 more are not 1,000", none.fits(-1), 3);
        }
        // 9,999,000 and a little less
        for (int worth = 998999; worth <= 999001; worth++) {
            for (int more = 0; more <= 1; more++) {
                RememberedWeight x = Due.island("p;p", "y:" + number(worth));
                x.seen(1, 0, 9999, more == 1);
                boolean enough = worth >= 999000;
                DUE.is("9,999 of " + worth, x.fits(-1), enough ? 27 : more == 1 ? 0 : 54);
            }
        }
        RememberedWeight x = Due.island("p;p");
        x.seen(0, 0, 0, true);
        x.seen(1, 8, 0, true);
        DUE.is("0 or more", x.fits(-1), 54);
        x.seen(1, 0, 0, false);
        DUE.is("less than 0", x.fits(-1), 0);
        DUE.is("fits(0)", x.fits(0), -1);
        DUE.is("ask", x.ask(0), -1);
        RememberedWeight y = Due.island("p;p");
        y.seen(1, 0, 9, false);
        DUE.is("less than its BODY", y.fits(-1), 0);
    }

    /** 8 times 7 times 27, rising. */
    private static void allFits() {
        int i = 0;
        RememberedWeight x = Due.island(EIGHT);
        for (int who = 0; who < 8; who++) {
            for (int of = 0; of < 8; of++) {
                for (int k = 0; k < 27 && who != of; k++) {
                    if (i % 300 == 0) {
                        x = Due.island(EIGHT);
                        DUE.is("fits(-1)", x.fits(-1), 1512);
                    }
                    DUE.is("fits(" + i + ")", x.fits(i), 1000 * who + 100 * of + 10 * (k / 9) + k % 9 + 1);
                    i++;
                }
            }
        }
        DUE.is("fits(1512)", x.fits(1512), -1);
        DUE.is("fits(1513)", x.fits(1513), -1);
        DUE.is("fits(-2)", x.fits(-2), -1);
        // 0 has one place left, 1 none, 2 tunes alone, 3 no tunes
        RememberedWeight y = Due.island("p;p;pm2;pm1" + ";t".repeat(3) + ";ta1o0".repeat(4));
        DUE.is("fits(-1)", y.fits(-1), 3 * 27 + 3 * 9 + 3 * 18);
        DUE.is("the last of 0", y.fits(80), 329);
        DUE.is("the first of 2", y.fits(81), 2021);
        DUE.is("the first of 3", y.fits(108), 3001);
        DUE.is("the last of all", y.fits(161), 3219);
        DUE.is("one more", y.fits(162), -1);
    }

    /** Who weighs more by an unknown one tells of whom it is: of each of eight, by each of the others. */
    private static void fitsOfEach() {
        for (int of = 0; of < 8; of++) {
            for (int n = 0; n <= 8; n += 4) {
                RememberedWeight x = Due.island(EIGHT, "y:1000");
                x.seen(of, n, 2, true);
                DUE.is("fits of " + of, x.fits(-1), 7 * 27);
                int i = 0;
                for (int who = 0; who < 8; who++) {
                    if (who != of) {
                        DUE.is("the first of " + of + " by " + who, x.fits(27 * i), 1000 * who + 100 * of + 1);
                        DUE.is("the last of " + of + " by " + who, x.fits(27 * i + 26), 1000 * who + 100 * of + 29);
                        i++;
                    }
                }
                DUE.is("no more", x.fits(27 * i), -1);
                x.seen(of, n, 2, false);
                DUE.is("none", x.fits(-1), 0);
                // tunes of STRENGTH 9 alone, to the last one
                RememberedWeight y = Due.island(EIGHT, "y:k=2&s=9?2000;y:1");
                y.seen(of, n, 3, true);
                DUE.is("one by each", y.fits(-1), 7);
                DUE.is("the last one", y.fits(6), (of == 7 ? 6000 : 7000) + 100 * of + 29);
                y.seen(of, n, 4, true);
                DUE.is("none", y.fits(-1), 0);
            }
        }
    }

    /** Told ones of 7 in all MINDS but 5 and 7, four in that of 0, and ones of others: all of 7 and the unknown one count. */
    private static void fitsAmongOthers() {
        String told = ";ta0o7".repeat(4) + ";ta1o7;ta2o7;ta3o7;ta4o7;ta6o7;ta1o0;ta7o0;ta7o1";
        for (int n = 0; n <= 8; n++) {
            RememberedWeight x = Due.island(EIGHT + told, "y:1000");
            x.seen(7, n, 10, true);
            x.seen(7, n, 11, true);
            DUE.is("of 7 by 1 .. 6", x.fits(-1), 6 * 27);
            DUE.is("the first", x.fits(0), 1701);
            DUE.is("the last", x.fits(161), 6729);
            x.seen(7, n, 12, true);
            DUE.is("none", x.fits(-1), 0);
            RememberedWeight y = Due.island(EIGHT + told, "y:1000");
            y.seen(7, n, 11, false);
            y.seen(0, n, 4, true);
            // 1,000 and two of 1,000 and one
            DUE.is("of 0 by 1 .. 7", y.fits(-1), 7 * 27);
            DUE.is("the first", y.fits(0), 1001);
            DUE.is("the last", y.fits(188), 7029);
            y.seen(0, n, 5, true);
            DUE.is("none", y.fits(-1), 0);
        }
        // as the fourth of the last MIND, behind others or alone
        for (int n = 0; n <= 8; n++) {
            RememberedWeight x = Due.island(EIGHT + ";ta7o0;ta7o1;ta7o1", "y:1000+a");
            x.seen(1, n, 4, true);
            DUE.is("of 1", x.fits(-1), 7 * 27);
            DUE.is("in the last place", x.fits(188), 7129);
            RememberedWeight y = Due.island(EIGHT + ";ta7o0;ta7o1;ta7o1;ta7o1", "y:1000+a");
            y.seen(1, n, 4, true);
            DUE.is("four told ones and all by others", y.fits(-1), 7 * 7 * 27);
            y.seen(1, n, 5, true);
            DUE.is("of 1, by none of a full MIND", y.fits(-1), 6 * 27);
        }
    }

    /** As told at HOUR 0, whatever goes by. */
    private static void fitsAsTold() {
        for (int steps = 0; steps <= 8; steps++) {
            RememberedWeight x = Due.island("sw5;pd1;pd1;t", "y:w*1000+h*100+a*10");
            for (int step = 0; step < steps; step++) {
                goOn(x, step);
            }
            // 9,000 and 5,000 and 5,000
            DUE.is("all behind " + steps, x.fits(-1), 54);
            x.seen(1, 0, 19, true);
            DUE.is("fits behind " + steps, x.fits(-1), 27);
            DUE.is("fits(0) behind " + steps, x.fits(0), 101);
            for (int step = steps; step <= 8; step++) {
                goOn(x, step);
                DUE.is("fits from " + steps + " to " + step, x.fits(-1), 27);
                DUE.is("SEEN stays", x.count(6), 1);
            }
        }
        // by h and by a, behind so many HOURS
        for (int n = 0; n <= 8; n++) {
            for (String law : new String[] {"y:1000+1000*h", "y:1000+1000*a", "y:1000+500*h+500*a"}) {
                RememberedWeight y = Due.island("pd1;pd1", law);
                y.seen(1, n, 10 + n, true);
                DUE.is("as much behind " + n + " by " + law, y.fits(-1), 27);
                y.seen(1, n, 11 + n, true);
                DUE.is("no more behind " + n + " by " + law, y.fits(-1), 0);
            }
        }
        // a told one that is forgotten by then weighs no more, an unknown one neither
        RememberedWeight y = Due.island("pd1;pd1;t", "y:a<3?1000;y:0");
        y.seen(1, 2, 11, true);
        DUE.is("two there", y.fits(-1), 27);
        y.seen(1, 3, 9, true);
        y.seen(1, 3, 10, false);
        DUE.is("none there", y.fits(-1), 27);
        y.seen(1, 3, 10, true);
        DUE.is("none there", y.fits(-1), 0);
    }

    private static void goOn(RememberedWeight x, int step) {
        switch (step) {
            case 0: x.hours(30); break;
            case 1: x.wind(1); break;
            case 2: x.think(0, 1, 0, 9); break;
            case 3: x.hem(1, 9); break;
            case 4: x.forget(0, 0); break;
            case 5: x.image(); break;
            case 6: x.undo(); break;
            case 7: x.years(2, 8); break;
            default: x.back();
        }
    }

    /** 0 .. 8, of several the least. */
    private static void asks() {
        for (int n = 0; n <= 8; n++) {
            // at that AGE alone polite ones weigh more than others
            String law = "y:a=" + n + "&k=0?9999;y:1";
            RememberedWeight x = Due.island("pm1d9;pm2", law);
            x.seen(0, 0, 9, true);
            DUE.is("ask(1) of HOUR " + n, x.ask(1), n);
            DUE.is("ask(0), alike ever", x.ask(0), 0);
            RememberedWeight y = Due.island("pm1d9;pm2", "y:(a=" + n + "|a=8)&k=0?9999;y:1");
            DUE.is("of two the least", y.ask(1), n);
        }
        RememberedWeight x = Due.island("pm1d9;pm2", "y:a=9&k=0?9999;y:1");
        DUE.is("behind 9 HOURS is too late", x.ask(1), 0);
        // fewer of STRENGTH 9 than not: three groups are better than two
        RememberedWeight y = Due.island("pm1d9;pm2d1", "y:a=3&s<5?9999;y:a=5&s<4?9999;y:a=5&s>6?9999*99;y:1");
        DUE.is("behind 5 HOURS", y.ask(1), 5);
        DUE.is("nobody", y.ask(2), -1);
        DUE.is("nobody", y.ask(-1), -1);
    }

    /** Of all that fit each counts once, those of others as well: how many are of the same HEFT behind 0, 1 .. HOURS. */
    private static void askedOfAll() {
        // 18 of 1, 9 of 0: 12 heavy and 15 not, then 14 and 13, then 18 and 9
        RememberedWeight x = Due.island("pm1d9;pm2d1", "y:a=0&s<7|a=1&s<8|a>1?9999;y:1");
        DUE.is("14 of 27 are fewer than 15", x.ask(1), 1);
        // 15 and 12, then 13 and 14: those of others are more than the light ones
        RememberedWeight y = Due.island("pm1d9;pm2d1", "y:a=0&s<4|a=1&s<3?9999;y:a>1?9999;y:1");
        DUE.is("18 at last are fewer than 21, 23", y.ask(1), 2);
        // of 0 in the MIND of 1 none fits; the first one is heavy or not: five and four, then five and four
        String[] laws = {"y:a=0&s>5?9999;y:a=1&s<6?9999;y:a=8?5000;y:1", "y:a=0&s<5?9999;y:a=1&s<6?9999;y:a=8?5000;y:1",
            "y:a=0&s>4?9999;y:a=1&s>5?9999;y:a=8?5000;y:1"};
        for (String law : laws) {
            RememberedWeight z = Due.island("pm2;p", law);
            z.seen(0, 8, 10, false);
            DUE.is("nine", z.fits(-1), 9);
            DUE.is("five and five", z.ask(1), 0);
        }
        // by two who are 99 and 1 DEEP: nine and nine, then ten and eight
        RememberedWeight w = Due.island("pd99m2;pd1m2;p", "y:a=0?9999;y:a=1&s<6?99/d*1000;y:a=1?99/d;y:5000");
        w.seen(0, 8, 10, false);
        w.seen(1, 8, 10, false);
        DUE.is("of 2 by two", w.fits(-1), 18);
        DUE.is("nine are fewer than ten", w.ask(2), 0);
        // nine tunes and eighteen others, then 21 and 6
        RememberedWeight v = Due.island("pd99m2;pd1m1;p", "y:a=0?9999;y:a=1&s<8?99/d*1000;y:a=1?99/d;y:5000");
        v.seen(0, 8, 10, false);
        v.seen(1, 8, 10, false);
        DUE.is("of 2 by two", v.fits(-1), 27);
        DUE.is("eighteen are fewer than 21", v.ask(2), 0);
    }

    /**
     * The unknown one lies in the lowest empty place of its MIND: WEIGHT of 3 is 1 (told, in the MIND of 0) and then
     * 67,108,860 less 1,000 times BODY: one more of 1 ahead of that makes 2 to the 26, behind it makes nothing.
     */
    private static void askedByPlace() {
        RememberedWeight x = Due.island("pd1;pd99;pd1m2;pb62;ta0o3k1s1;ta1o3s9;ta1o2s1;ta1o2s1;ta1o2s1;sw3",
                "y:d=99&s=9&a=0?9999*67+7308;y:a=8?5000;y:a>0&k=0?9999*50;y:1");
        DUE.is("WEIGHT", Due.person(x, 3, 3), 67108860);
        DUE.is("one in the MIND of 0", x.think(0, 3, 0, 1), 1);
        DUE.is("WEIGHT", Due.person(x, 3, 3), 67108864);
        x.undo();
        DUE.is("one in the MIND of 2", x.think(2, 3, 2, 1), 0);
        DUE.is("WEIGHT", Due.person(x, 3, 3), 67108860);
        // none of 0, 1, 2: behind 8 HOURS each weighs 5,000
        x.seen(0, 8, 10, false);
        x.seen(1, 8, 10, false);
        x.seen(2, 8, 1495, false);
        DUE.is("of 3: 27 of 0, 9 of 2", x.fits(-1), 36);
        DUE.is("fits(0)", x.fits(0), 301);
        DUE.is("fits(35)", x.fits(35), 2329);
        // 27 and 9 now, 9 and 27 later
        DUE.is("ask(3)", x.ask(3), 0);
    }

    /** Polite, STRENGTH 9, AGE 0, of the other one; what does not go is nothing; all of the other one are given up. */
    private static void moves() {
        String law = "y:s=9&k=0&a=0?9999;y:1";
        RememberedWeight x = Due.island("sw0;pb1d9;pb1d9;pb1d9", law);
        DUE.is("had", x.game(0, 1, 1, 0, 0), 9 - 16);
        DUE.is("had", x.game(0, 1, 1, 0, 1), 16 - 9);
        DUE.is("had", x.game(0, 1, 0, 1, 0), 16 - 9);
        DUE.is("both at once", x.game(0, 1, 1, 1, 0), 0);
        for (int told = 0; told <= 4; told++) {
            RememberedWeight y = Due.island("sw0;pb1d9;pb1d9;pb1d9" + ";to2".repeat(told), law);
            DUE.is("a place behind " + told, y.game(0, 1, 1, 0, 0), told < 4 ? 9 - 16 : 0);
            RememberedWeight z = Due.island("sw0;pb1d9;pb1d9;pb1d9" + ";t".repeat(told) + ";ta2o1", "y:999");
            int heft = 31 - Integer.numberOfLeadingZeros(1000 + 999 * 9 * (told + 1));
            DUE.is("all of them there", z.game(0, 1, 0, 0, 1), heft - 9);
            DUE.is("given up all of them", z.game(0, 1, 2, 0, 1), 31 - Integer.numberOfLeadingZeros(9991) - 9);
        }
        for (int mind = 0; mind <= 2; mind++) {
            RememberedWeight y = Due.island("sw0;pb1d9m" + mind + ";pb1d9", law);
            DUE.is("into a MIND " + mind, y.game(0, 1, 1, 0, 0), mind == 2 ? 0 : 9 - 16);
            DUE.is("into a MIND " + mind, y.game(1, 0, 0, 1, 0), mind == 2 ? 0 : 16 - 9);
        }
        // 2 if the other one FLOATS then: 9,999 is less than 10,000, 10,000 is not
        RememberedWeight w = Due.island("sw1;pb1d1;pb1d1", "y:s=9?8999;y:1");
        DUE.is("FLOATS", w.game(0, 1, 1, 0, 0), 9 - 13 + 2);
        RememberedWeight v = Due.island("sw1;pb1d1;pb1d1", "y:s=9?9000;y:1");
        DUE.is("does not FLOAT", v.game(0, 1, 1, 0, 0), 9 - 13);
        DUE.is("the other one FLOATS", v.game(0, 1, 1, 0, 1), 13 - 9 + 2);
    }

    private static void restsOf(String island, String law, int... due) {
        RememberedWeight x = Due.island(island, law);
        DUE.is("rests of " + island, x.rests(0, 1, -1), due.length);
        for (int i = 0; i < due.length; i++) {
            DUE.is("rests " + i + " of " + island, x.rests(0, 1, i), due[i]);
            DUE.is("the other way", x.rests(1, 0, -1), due.length);
        }
        for (int i = due.length; i <= 10; i++) {
            DUE.is("rests " + i + " of " + island, x.rests(0, 1, i), -1);
        }
        DUE.is("rests(0, 1, -2)", x.rests(0, 1, -2), -1);
        DUE.is("rests(0, 1, min)", x.rests(0, 1, Integer.MIN_VALUE), -1);
        DUE.is("rests(0, 1, max)", x.rests(0, 1, Integer.MAX_VALUE), -1);
    }

    private static void rests() {
        restsOf("pm2;pm2", "y:1", 0, 1, 2, 10, 11, 12, 20, 21, 22);
        // 0 is 1 DEEP: his THOUGHTS make no other HEFT
        restsOf("sw6;pb1d1;pb5d9", "y:2*s", 0, 2, 10, 12, 20, 22);
        restsOf("sw6;pb1d1;pb5d9;ta1o0s9", "y:2*s", 2, 12, 22);
        restsOf("sw6;pb5d9;pb1d1;t", "y:200*s", 20, 21, 22);
        restsOf("p;p", "y:s*999*100", 0, 2, 20, 22);
        restsOf("p;p;t", "y:s*999*100", 20, 22);
        restsOf("p;p;t;ta1o0", "y:s*999*100", 22);
        // no digit more by a THOUGHT of 0, but 0 does not FLOAT with it
        restsOf("sw1;pm2;pb3d3m1", "y:s=9?777*3;y:1", 0, 2, 10, 12, 20, 22);
    }

    private static void odds() {
        RememberedWeight x = Due.island("sw1;pd9;pb1;ta0o1k2", "y:1");
        RememberedWeight y = Due.island("sw1;pd9;pb99;ta0o1k2", "y:1");
        for (int n = 0; n <= 6; n++) {
            for (int chance : new int[] {0, 1, 50, 99, 100}) {
                DUE.is("FLOATS ever", x.odds(1, n, chance), ALL_PARTS);
                DUE.is("FLOATS never", y.odds(1, n, chance), 0);
            }
        }
    }

    /** A tune that weighs until it is so old: of each part chance 100ths, cut, with a tune; once forgotten it is gone. */
    private static void oddsOfTunes() {
        for (int light = 1; light <= 4; light++) {
            for (int n = 0; n <= 6; n++) {
                for (int chance : new int[] {0, 1, 2, 33, 50, 67, 98, 99, 100}) {
                    for (int gone = 0; gone <= 1; gone++) {
                        RememberedWeight x = Due.island("sw1;pd9;pb1;ta0o1k2", "y:a<" + light + "?9999;y:" + (1 - gone));
                        x.hours(1);
                        long due = parts(1, n, chance, light, gone == 1, ALL_PARTS);
                        DUE.is("odds of " + n + ", " + chance + ", " + light, x.odds(1, n, chance), due);
                    }
                }
            }
        }
    }

    /** An AGE of -1: it is forgotten. */
    private static long parts(int age, int left, int chance, int light, boolean gone, long part) {
        if (left == 0) {
            return age < 0 || age >= light ? part : 0;
        }
        long with = part * chance / 100;
        int without = age < 0 || gone && age >= light ? -1 : age + 1;
        int renewed = age < 0 ? -1 : 1;
        return parts(without, left - 1, chance, light, gone, part - with) + parts(renewed, left - 1, chance, light, gone, with);
    }

    private static void shares() {
        int[] bodies = {1, 2, 3, 5, 8, 13, 21, 34};
        StringBuilder text = new StringBuilder();
        for (int body : bodies) {
            text.append(text.length() == 0 ? "pb" : ";pb").append(body);
        }
        RememberedWeight x = Due.island(text.toString());
        for (int i = 0; i < 8; i++) {
            for (int c : new int[] {0, 1, 2, 3, 43, 44, 86, 87, 88, 998, 999}) {
                DUE.is("shares(" + i + ", " + c + ")", x.shares(i, c), c * bodies[i] / 87);
            }
            DUE.is("shares of 1,000", x.shares(i, 1000), -1);
            DUE.is("shares of -1", x.shares(i, -1), -1);
        }
        DUE.is("halves", Due.island("pb7;pb7").shares(1, 999), 499);
        DUE.is("halves", Due.island("pb7;pb7").shares(1, 1), 0);
        DUE.is("halves", Due.island("pb7;pb7").shares(1, 2), 1);
    }

    /** Of several the lowest: of each two that are alike, of all. */
    private static void ofSeveralTheLowest() {
        for (int i = 0; i < 8; i++) {
            for (int j = i; j < 8; j++) {
                StringBuilder much = new StringBuilder();
                StringBuilder little = new StringBuilder();
                for (int k = 0; k < 8; k++) {
                    boolean one = k == i || k == j;
                    much.append(k == 0 ? "" : ";").append(one ? "pb9d9" : "pb8d8");
                    little.append(k == 0 ? "" : ";").append(one ? "pb8" : "pb9");
                }
                String thoughts = ";ta" + (i + 1) % 8 + "o" + i + (i == j ? "" : ";ta" + (j + 1) % 8 + "o" + j);
                RememberedWeight x = Due.island(much + thoughts, "y:0");
                DUE.is("HEAVIEST", x.most(0), i);
                DUE.is("DEEPEST", x.most(2), i);
                DUE.is("THOUGHT OF", x.most(3), i);
                DUE.is("NOBODY'S", x.most(6), 255 & ~(1 << i | 1 << j));
                DUE.is("THOUGHTS", x.most(7), i == j ? 1 : 2);
                DUE.is("LIGHTEST", Due.island(little.toString()).most(1), i);
            }
        }
        RememberedWeight all = Due.island("p;p;p;p;p;p;p;p");
        int[] due = {0, 0, 0, 0, 255, 0, 255, 0, 0, -1, 0};
        for (int what = 0; what <= 10; what++) {
            DUE.is("most(" + what + ") of eight alike", all.most(what), due[what]);
        }
        DUE.is("HEAVIEST by one", Due.island("pb8;pb9;pd1;ta2o0", "y:999").most(0), 1);
        DUE.is("HEAVIEST alike", Due.island("pb8;pb9;pd1;ta2o0", "y:1000").most(0), 0);
        DUE.is("LIGHTEST by one", Due.island("pb9;pb8;pd1b50;ta2o1", "y:999").most(1), 1);
        DUE.is("LIGHTEST alike", Due.island("pb9;pb8;pd1b50;ta2o1", "y:1000").most(1), 0);
    }

    private static void thoughtsAndMinds() {
        RememberedWeight x = Due.island("p;p;p");
        DUE.is("OLDEST of none", x.most(9), -1);
        for (int i = 0; i < 12; i++) {
            DUE.is("THOUGHTS", x.most(7), i);
            DUE.is("FULL", x.most(8), (1 << i / 4) - 1);
            DUE.is("OLDEST", x.most(9), i == 0 ? -1 : i);
            DUE.is("THOUGHT OF", x.most(3), i < 1 ? 0 : 1);
            x.think(i / 4, i < 4 ? 1 : i < 8 ? 2 : 1, 0, 9);
            x.hours(1);
        }
        DUE.is("FULL", x.most(8), 7);
        DUE.is("NOBODY'S", x.most(6), 1);
        x.forget(0, 0);
        DUE.is("OLDEST", x.most(9), 11);
        DUE.is("FULL", x.most(8), 6);
        x.undo();
        x.hours(60);
        x.hours(27);
        DUE.is("OLDEST", x.most(9), 99);
        x.hours(1);
        DUE.is("OLDEST at most", x.most(9), 99);
        // of AGE 0 there is one, too
        DUE.is("OLDEST of AGE 0", Due.island("p;p;t").most(9), 0);
        // FLOATING, SINKING
        RememberedWeight y = Due.island("sw1g1;pb9d1;pb10d1;pb9d1;pb9d1;ta0o2;ta0o3s9", "y:s=9?9999*9999;y:1");
        DUE.is("FLOATING", y.most(4), 1 + 4);
        DUE.is("SINKING", y.most(5), 8);
        for (int wrong : new int[] {-1, 11, Integer.MIN_VALUE, Integer.MAX_VALUE}) {
            DUE.is("no such", y.most(wrong), -1000000);
        }
    }

    /** The fourth place of the eighth MIND counts as any other one. */
    private static void lastPlace() {
        RememberedWeight x = Due.island("sg1w1;pd9;p;p;p;p;p;p;pd99;ta7o1k0;ta7o1k1;ta7o1k1;ta7o0k2s9", "y:k=2&a<3?s*999*100;y:1");
        DUE.is("of whom", x.thought(7, 3, 0), 0);
        DUE.is("MASS", x.thought(7, 3, 4), 89010896);
        DUE.is("WEIGHT", Due.person(x, 0, 3), 89019896);
        DUE.is("SINKING", x.most(5), 1);
        DUE.is("eased", x.eased(0), 1);
        DUE.is("NOBODY'S", x.most(6), 252);
        DUE.is("FULL", x.most(8), 128);
        DUE.is("THOUGHTS", x.most(7), 4);
        DUE.is("fits by others alone", x.fits(-1), 7 * 7 * 27);
        x.seen(0, 2, 9999, true);
        DUE.is("heavy behind 2 HOURS", x.fits(-1), 7 * 7 * 27);
        x.seen(0, 3, 9999, true);
        DUE.is("light behind 3, but by a tune more", x.fits(-1), 0);
        DUE.is("odds with tunes", x.odds(0, 3, 100), 0);
        DUE.is("odds of none", x.odds(0, 3, 0), ALL_PARTS);
        // without a tune ahead of the second and of the third HOUR
        DUE.is("odds", x.odds(0, 3, 50), 250000000);
        x.hours(1);
        DUE.is("AGE", x.thought(7, 3, 3), 1);
        for (int place = 0; place < 3; place++) {
            DUE.is("forget", x.forget(7, place), 1);
        }
        DUE.is("OLDEST", x.most(9), 1);
        DUE.is("THOUGHT OF", x.most(3), 0);
        DUE.is("NOBODY'S", x.most(6), 254);
        DUE.is("given up", x.game(7, 0, 2, 0, 1), 13 - 13 + 2);
        DUE.is("LOG", x.log(0, 2), 4);
        DUE.is("undo", x.undo(), 3);
        DUE.is("forget", x.forget(7, 3), 0);
        DUE.is("forget", x.forget(7, 2), 1);
        DUE.is("OLDEST of none", x.most(9), -1);
        DUE.is("lowest", x.think(7, 0, 0, 1), 0);
    }

    /** Two count as soon as each thinks of the other one, however often, once. */
    private static void pairs() {
        for (int i = 0; i < 8; i++) {
            for (int j = 0; j < 8; j++) {
                if (i != j) {
                    RememberedWeight x = Due.island(EIGHT + ";ta" + i + "o" + j, "y:1");
                    DUE.is("one of them", x.most(10), 0);
                    DUE.is("think", x.think(j, (j + 1) % 8 == i ? (j + 2) % 8 : (j + 1) % 8, 0, 1), 0);
                    DUE.is("of another one", x.most(10), 0);
                    x.think(j, i, 0, 1);
                    DUE.is("both", x.most(10), 1);
                    x.think(j, i, 0, 1);
                    x.think(i, j, 0, 1);
                    DUE.is("more of both", x.most(10), 1);
                    x.forget(j, 1);
                    DUE.is("yet", x.most(10), 1);
                    x.forget(j, 2);
                    DUE.is("no more", x.most(10), 0);
                }
            }
        }
        // each of eight thinks of the four next to him
        RememberedWeight x = Due.island(EIGHT, "y:1");
        for (int i = 0; i < 8; i++) {
            for (int step : new int[] {1, 2, 6, 7}) {
                x.think(i, (i + step) % 8, 0, 1);
            }
        }
        DUE.is("the most", x.most(10), 16);
    }
}
