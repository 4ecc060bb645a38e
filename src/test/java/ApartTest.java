/** Promises 22 to 28 and 34 to 36: what will be, who crosses, who is held and eased, odds, shares, who is heaviest. */
public final class ApartTest {
    private static final Due DUE = new Due("ApartTest");
    /** By this one who is 1 DEEP and whose BODY is 1 weighs 100,000 times STRENGTH. */
    private static final String HUNDREDS = "y:1000*s*100-1000";

    public static void main(String[] args) {
        behind();
        floatsIn();
        load();
        together();
        goings();
        held();
        eased();
        odds();
        oddsCut();
        shares();
        most();
        nobody();
        DUE.finish();
    }

    private static void behind() {
        RememberedWeight x = Due.island("p;p;ts1;ts2");
        for (int n = 0; n <= 60; n++) {
            long due = 9000 + 100000 / (n + 1) * 10 + 200000 / (n + 1) * 10;
            DUE.is("behind(1, " + n + ")", x.behind(1, n), due);
        }
        DUE.is("behind(0, 60)", x.behind(0, 60), 9000);
        DUE.is("nothing has changed", x.count(4), 0);
        DUE.is("nothing has changed", x.thought(0, 0, 3), 0);
        DUE.is("behind(1, 61)", x.behind(1, 61), -1);
        DUE.is("behind(1, -1)", x.behind(1, -1), -1);
        DUE.is("behind(2, 0)", x.behind(2, 0), -1);
        DUE.is("behind(-1, 0)", x.behind(-1, 0), -1);
        x.hours(3);
        DUE.is("from as it is now", x.behind(1, 2), 9000 + 16666 * 10 + 33333 * 10);
        // WIND as it is now, forgotten as its MASS was 0 at HOUR 0
        DUE.is("w", Due.island("sw7;p;p;t", "y:w+a").behind(1, 3), 9000 + 10 * 10);
        DUE.is("h", Due.island("p;p;t", "y:h").behind(1, 3), 9000);
        DUE.is("h", Due.island("p;p;t", "y:h+1").behind(1, 25), 9000 + 20);
    }

    private static void floatsIn() {
        // 1,000,000 by 47 and 48: 21,270 and 20,830 above 9,000, less than 30,000 or not
        RememberedWeight x = Due.island("p;p;ts1");
        DUE.is("floatsIn(1)", x.floatsIn(1), 47);
        DUE.is("floatsIn(0)", x.floatsIn(0), 0);
        DUE.is("floatsIn(2)", x.floatsIn(2), -1);
        DUE.is("floatsIn(-1)", x.floatsIn(-1), -1);
        x.hours(40);
        DUE.is("floatsIn(1)", x.floatsIn(1), 7);
        x.wind(0);
        DUE.is("never", x.floatsIn(1), -1);
        DUE.is("never", x.floatsIn(0), -1);
        DUE.is("99", Due.island("sw1;pd1;pd1;t", "y:a<99?1000;y:0").floatsIn(1), 99);
        DUE.is("98", Due.island("sw1;pd1;pd1;t", "y:a<98?1000;y:0").floatsIn(1), 98);
        DUE.is("beyond", Due.island("sw1;pd1;pd1;t", "y:1000").floatsIn(1), -1);
        DUE.is("the first time", Due.island("sw1;pd1;pd1;t", "y:h<3?1000;y:h<5?999;y:5000").floatsIn(1), 3);
    }

    private static void load() {
        RememberedWeight x = Due.island("pb1d1;pb2d1;pb4d1");
        for (int some = 0; some < 8; some++) {
            DUE.is("load(" + some + ")", x.load(some), 1000 * some);
        }
        DUE.is("load(8)", x.load(8), -1);
        DUE.is("load(-1)", x.load(-1), -1);
        DUE.is("load(min)", x.load(Integer.MIN_VALUE), -1);
        DUE.is("load(max)", x.load(Integer.MAX_VALUE), -1);
        // 297,001,000 by and by: from 2 to the 28 on steps are of 32
        String rest = ";ta2o_k0;ta2o_k0;ta2o_k0";
        RememberedWeight ahead = Due.island("pb1;pb1;pd99;pb1" + rest.replace('_', '0'), "y:9999*9999");
        RememberedWeight behind = Due.island("pb1;pb1;pd99;pb1" + rest.replace('_', '3'), "y:9999*9999");
        float heavy = 1000 + 99000000f + 99000000f + 99000000f;
        DUE.is("heavy", Due.person(ahead, 0, 3), (long) heavy);
        DUE.is("heavy ahead", ahead.load(11), (long) (heavy + 1000f + 1000f));
        DUE.is("heavy behind", behind.load(11), (long) (2000f + heavy));
        DUE.is("these two differ", ahead.load(11) != behind.load(11), true);
    }

    private static void together() {
        // 400,000, 400,000, 400,000
        RememberedWeight x = Due.island("sb1;pb1d1;pb1d1;pb1d1;ta1o0s4;ta0o1s4;ta0o2s4", HUNDREDS);
        DUE.is("WEIGHT", Due.person(x, 0, 3), 400000);
        DUE.is("two, the least bits", x.together(), 3);
        DUE.is("goings", x.goings(), 2);
        x.hem(0, 1);
        DUE.is("two yet", x.together(), 3);
        // 700,000, 400,000, 600,000: just 1,000,000
        RememberedWeight y = Due.island("sb1;pb1d1;pb1d1;pb1d1;ta1o0s7;ta0o1s4;ta0o2s6", HUNDREDS);
        DUE.is("just as much", y.together(), 6);
        DUE.is("goings", y.goings(), 2);
        y.hem(2, 1);
        DUE.is("too much", y.together(), 1);
        DUE.is("goings", y.goings(), 3);
        // 1,001,000 and 9,000
        RememberedWeight z = Due.island("sb1;pb2d1;p;ta1o0s1", "y:999*100");
        DUE.is("just as much", z.goings(), -1);
        DUE.is("the other one", z.together(), 2);
        DUE.is("1,000,000 alone", Due.island("sb1;pb2d1;pd1;ta1o0s1", "y:998*1000").together(), 1);
        DUE.is("1,000,001 alone", Due.island("sb1;pb2d1;pb99;pd1;ta2o0s1", "y:998*1000+1").together(), 6);
        DUE.is("2,000,000", Due.island("sb2;pb2d1;pb2d1;ta1o0;to1", "y:998*1000").together(), 3);
        DUE.is("2,000,001", Due.island("sb2;pb2d1;pb2d1;ta1o0;to1s1", "y:998*1000+[1/s]").together(), 1);
        DUE.is("2,000,001", Due.island("sb2;pb2d1;pb2d1;ta1o0;to1s1", "y:998*1000+[1/s]").goings(), 2);
        RememberedWeight none = Due.island("sb1;pd9;pd9;t;ta1o0");
        DUE.is("it bears nobody", none.together(), 0);
        DUE.is("it does not bear somebody", none.goings(), -1);
        DUE.is("all", Due.island("sb1;p;p;p;p;p;p;p;p").together(), 255);
        DUE.is("all at once", Due.island("sb1;p;p;p;p;p;p;p;p").goings(), 1);
    }

    private static void goings() {
        // 500,000 400,000 500,000 600,000: two and two, though not one behind the other
        RememberedWeight x = Due.island("sb1;pb1d1;pb1d1;pb1d1;pb1d1;ta1o0s5;ta0o1s4;ta0o2s5;ta0o3s6", HUNDREDS);
        DUE.is("goings", x.goings(), 2);
        DUE.is("together", x.together(), 3);
        x.hem(1, 1);
        DUE.is("a little more", x.goings(), 3);
        RememberedWeight eight = Due.island("sb1;pb1d1;pb1d1;pb1d1;pb1d1;pb1d1;pb1d1;pb1d1;pb1d1;ta1o0s6;ta0o1s6;"
                + "ta0o2s6;ta0o3s6;ta0o4s6;ta1o5s6;ta1o6s6;ta1o7s6", HUNDREDS);
        DUE.is("each alone", eight.goings(), 8);
        DUE.is("one", eight.together(), 1);
    }

    private static void held() {
        // STRENGTH 5 is 2,500 times DEEP: 10,000 10,000 12,500 above 9,000, of 30,000
        String law = "y:500*s";
        RememberedWeight x = Due.island("p;pd4;pd4;pd5", law);
        DUE.is("held(0)", x.held(0), 10);
        DUE.is("nothing has changed", x.most(7), 0);
        DUE.is("held(4)", x.held(4), -1);
        DUE.is("held(-1)", x.held(-1), -1);
        DUE.is("by the 10 DEEP alone", x.held(1), 1);
        DUE.is("one is fewer than two", Due.island("p;pd4;pd5;pd9", law).held(0), 8);
        DUE.is("two of lower bits, not 0", Due.island("pd4;p;pd5;pd5", law).held(1), 5);
        DUE.is("not 0, who is too shallow", Due.island("pd1;p;pd9", law).held(1), 4);
        DUE.is("by none", Due.island("p;pd4;pd4", law).held(0), -1);
        DUE.is("all three", Due.island("p;pd3;pd4;pd2", law).held(0), 14);
        DUE.is("no tunes' MIND", Due.island("p;pd4;pd4;pd5m2", law).held(0), -1);
        DUE.is("a MIND of the polite", Due.island("p;pd4;pd4m2;pd5m1", law).held(0), 10);
        DUE.is("a full MIND", Due.island("p;pd5;pd5;pd5;ta1o2;ta1o2;ta1o2;ta1o2", law).held(0), 12);
        // 9,000 and 21,000 is not less than 30,000
        DUE.is("just so", Due.island("p;pd7;pd7", "y:s*600").held(0), 2);
        DUE.is("not quite", Due.island("p;pd7;pd7", "y:s*600-1").held(0), 6);
        DUE.is("one does not FLOAT anyhow", Due.island("pb30;p", law).held(0), 0);
        // it is had at AGE 0, polite, in the lowest empty place
        DUE.is("polite", Due.island("p;pd9", "y:k=0&a=0&s=5?9999;y:0").held(0), 2);
        RememberedWeight y = Due.island("p;pd9;pd9", "y:0");
        DUE.is("of no MASS", y.held(0), -1);
        // what is weighed is weighed now
        RememberedWeight z = Due.island("p;p;to1k1", "y:k=1?9999*10;y:1");
        DUE.is("not FLOATING", z.held(1), 0);
        z.forget(0, 0);
        DUE.is("FLOATING, by none", z.held(1), -1);
        DUE.is("shares", z.shares(1, 100), 50);
        z.undo();
        DUE.is("shares", z.shares(1, 100), 99);
        DUE.is("not FLOATING", z.held(1), 0);
    }

    private static void eased() {
        // 9,000 and 9, 5, 1 and 5 millions
        RememberedWeight x = Due.island("sg10;p;p;p;ts5;ts1;ta2o1s9;ta2o1s5");
        DUE.is("WEIGHT", Due.person(x, 1, 3), 20009000);
        DUE.is("the 9 and one of the 5: 6,009,000", x.eased(1), 2);
        DUE.is("one does not SINK anyhow", x.eased(0), 0);
        DUE.is("eased(3)", x.eased(3), -1);
        DUE.is("eased(-1)", x.eased(-1), -1);
        DUE.is("nothing has changed", x.most(7), 4);
        DUE.is("all", Due.island("sg1;p;p;ts2;ts2;ts2").eased(1), 3);
        DUE.is("most MASS ahead", Due.island("sg10;p;p;ts9;ts1;ts1;ts1").eased(1), 1);
        DUE.is("most MASS behind", Due.island("sg10;p;p;ts1;ts1;ts1;ts9").eased(1), 1);
        DUE.is("of this one alone", Due.island("sg1;p;p;p;to2s9;ts1;ts1;to2s9").eased(1), 2);
        // of several with most MASS the lowest: 3 3 and then the other one is 99,000,006, rounded 99,000,008
        RememberedWeight z = Due.island("sg99;pd99;pb99;pd1;pd99;ta0o1;ta2o1;ta2o1;ta3o1", "y:d=99?999*1000;y:3");
        DUE.is("the lowest MIND", z.eased(1), 2);
        z.forget(0, 0);
        DUE.is("3 3 ahead", Due.person(z, 1, 3), 99000008);
        z.undo();
        z.forget(3, 0);
        DUE.is("3 3 behind", Due.person(z, 1, 3), 99000000);
        // just 1,000,000 times GROUND is not more
        RememberedWeight y = Due.island("sg1;pd1;pb10d1;t", "y:99*100*100");
        DUE.is("just so", y.eased(1), 0);
        y.hem(1, 1);
        DUE.is("more", y.eased(1), 1);
    }

    private static void odds() {
        // it FLOATS if the tune is two HOURS old or older
        String law = "y:k=2&a<2?9999;y:1";
        RememberedWeight x = Due.island("pd9;pd9;ta1o0k2", law);
        DUE.is("n 0", x.odds(0, 0, 30), 0);
        DUE.is("n 1", x.odds(0, 1, 30), 0);
        // without a tune ahead of the second HOUR
        DUE.is("n 2", x.odds(0, 2, 30), 700000000);
        DUE.is("n 3", x.odds(0, 3, 30), 490000000 + 210000000);
        DUE.is("chance 0", x.odds(0, 6, 0), 1000000000);
        DUE.is("chance 100", x.odds(0, 6, 100), 0);
        DUE.is("FLOATS anyhow", x.odds(1, 6, 50), 1000000000);
        DUE.is("FLOATS now", x.odds(1, 0, 50), 1000000000);
        DUE.is("nothing has changed", x.count(4), 0);
        // a tune of another one, and what is no tune of this one, grow older
        DUE.is("no tune", Due.island("pd9;pd9;ta1o0k1", "y:a<2?9999;y:1").odds(0, 2, 100), 1000000000);
        DUE.is("of another one", Due.island("pd9;pd9;pd9;ta1o0k2;ta1o2k2", law).odds(0, 2, 30), 700000000);
        // one that is forgotten does not come again
        RememberedWeight y = Due.island("pd9;pd9;ta1o0k2", "y:a=1?0;y:9999");
        DUE.is("there yet", y.odds(0, 1, 100), 1000000000);
        DUE.is("AGE 0 ahead of each HOUR", y.odds(0, 2, 100), 1000000000);
        y.hours(1);
        DUE.is("no tune: gone; a tune: AGE 1, of no MASS", y.odds(0, 1, 50), 1000000000);
        RememberedWeight z = Due.island("pd9;pd9;ta1o0k2", "y:a=2?0;y:9999");
        z.hours(2);
        DUE.is("gone without a tune, heavy with one", z.odds(0, 1, 30), 700000000);
        y.law(-1);
        DUE.is("by no LAW it is heavy", y.odds(0, 1, 50), 0);
        for (int wrong : new int[] {-1, 7, Integer.MAX_VALUE}) {
            DUE.is("n", x.odds(0, wrong, 0), -1);
        }
        DUE.is("chance", x.odds(0, 0, 101), -1);
        DUE.is("chance", x.odds(0, 0, -1), -1);
        DUE.is("nobody", x.odds(2, 0, 0), -1);
        DUE.is("nobody", x.odds(-1, 0, 0), -1);
    }

    private static void oddsCut() {
        // it FLOATS only if there was no tune ahead of the five last HOURS; each part is cut by itself
        RememberedWeight x = Due.island("pd9;pd9;ta1o0k2", "y:a<6?9999;y:1");
        long due = 0;
        for (long part : new long[] {330000000, 670000000}) {
            for (int i = 0; i < 5; i++) {
                part -= part * 33 / 100;
            }
            due += part;
        }
        DUE.is("of 33", x.odds(0, 6, 33), due);
    }

    private static void shares() {
        // 10,000 20,000 of 30,000
        RememberedWeight x = Due.island("pb10;pb20");
        DUE.is("shares(0, 100)", x.shares(0, 100), 33);
        DUE.is("shares(1, 100)", x.shares(1, 100), 66);
        DUE.is("shares(1, 999)", x.shares(1, 999), 666);
        DUE.is("shares(1, 0)", x.shares(1, 0), 0);
        DUE.is("shares(1, 2)", x.shares(1, 2), 1);
        DUE.is("shares(1, 1000)", x.shares(1, 1000), -1);
        DUE.is("shares(1, -1)", x.shares(1, -1), -1);
        DUE.is("shares(2, 1)", x.shares(2, 1), -1);
        DUE.is("shares(-1, 1)", x.shares(-1, 1), -1);
    }

    private static void most() {
        int[] alone = {0, 0, 0, 0, 3, 0, 3, 0, 0, -1, 0};
        RememberedWeight x = Due.island("p;p");
        for (int what = 0; what <= 10; what++) {
            DUE.is("most(" + what + ")", x.most(what), alone[what]);
        }
        // 0 thinks of 1 1 2 3, 1 of 0, 2 of 0, 3 of 2
        RememberedWeight y = Due.island("sg4;pb9d5;pb8d7;pb8d7;pb7d7;to1s1;to1s1;to2s1;to3s9;ta1o0s1;ta2o0s1;ta3o2s1");
        int[] due = {3, 1, 1, 0, 0, 8, 0, 7, 1, 0, 2};
        for (int what = 0; what <= 10; what++) {
            DUE.is("most(" + what + ")", y.most(what), due[what]);
        }
        y.forget(0, 3);
        y.forget(0, 0);
        y.hours(3);
        y.think(3, 1, 2, 1);
        int[] later = {1, 3, 1, 0, 8, 0, 8, 6, 0, 3, 2};
        for (int what = 0; what <= 10; what++) {
            DUE.is("most(" + what + ")", y.most(what), later[what]);
        }
        DUE.is("most(-1)", y.most(-1), -1000000);
        DUE.is("most(11)", y.most(11), -1000000);
        // of several the lowest
        RememberedWeight z = Due.island("pb5d5;pb7d9;pb7d9;pb5d5;ta0o2;ta0o3");
        z.law(-1);
        DUE.is("THOUGHT OF", z.most(3), 2);
        DUE.is("DEEPEST", z.most(2), 1);
        DUE.is("LIGHTEST", z.most(1), 0);
        z.forget(0, 0);
        z.forget(0, 1);
        DUE.is("HEAVIEST", z.most(0), 1);
        DUE.is("DEEPEST", Due.island("pd1;pd2;pd3;pd9;pd8").most(2), 3);
        DUE.is("THOUGHT OF", Due.island("p;p;p;t;to2;ta2o1").most(3), 1);
        DUE.is("HEAVIEST", Due.island("pb1;pb2;pb3").most(0), 2);
        DUE.is("LIGHTEST", Due.island("pb3;pb2;pb1").most(1), 2);
        DUE.is("FLOATING", z.most(4), 15);
    }

    private static void nobody() {
        RememberedWeight x = new RememberedWeight();
        DUE.is("behind", x.behind(0, 0), -1);
        DUE.is("floatsIn", x.floatsIn(0), -1);
        DUE.is("load", x.load(0), -1);
        DUE.is("together", x.together(), -1);
        DUE.is("goings", x.goings(), -1);
        DUE.is("held", x.held(0), -1);
        DUE.is("eased", x.eased(0), -1);
        DUE.is("odds", x.odds(0, 0, 0), -1);
        DUE.is("shares", x.shares(0, 0), -1);
        DUE.is("most", x.most(0), -1000000);
    }
}
