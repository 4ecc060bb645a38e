/** Promises 29 to 33: which THOUGHT it was, when to ask, games of two and their rests. */
public final class RiddleTest {
    private static final Due DUE = new Due("RiddleTest");

    public static void main(String[] args) {
        seen();
        fits();
        fitsAsTold();
        fitsBehind();
        goesThere();
        asks();
        games();
        gamesWithoutPlace();
        rests();
        nobody();
        DUE.finish();
    }

    private static void seen() {
        RememberedWeight x = Due.island("p;p");
        for (int wrong : new int[] {-1, 9, Integer.MIN_VALUE}) {
            DUE.is("n", x.seen(0, wrong, 0, true), -1);
        }
        for (int wrong : new int[] {-1, 10000, Integer.MAX_VALUE}) {
            DUE.is("v", x.seen(0, 0, wrong, true), -1);
        }
        DUE.is("nobody", x.seen(2, 0, 0, true), -1);
        DUE.is("nobody", x.seen(-1, 0, 0, true), -1);
        DUE.is("v 0", Due.island("p;p").seen(0, 0, 0, true), 1);
        DUE.is("n 8, v 9,999", Due.island("p;p").seen(1, 8, 9999, false), 1);
        for (int i = 1; i <= 10; i++) {
            DUE.is("seen", x.seen(i % 2, i % 9, 9999, false), i);
            DUE.is("count(6)", x.count(6), i);
        }
        DUE.is("there are ten", x.seen(0, 0, 0, true), -1);
        DUE.is("count(6)", x.count(6), 10);
    }

    private static void fits() {
        RememberedWeight x = Due.island("p;p");
        DUE.is("all", x.fits(-1), 54);
        int[] first = {101, 102, 103, 104, 105, 106, 107, 108, 109, 111};
        for (int i = 0; i < first.length; i++) {
            DUE.is("fits(" + i + ")", x.fits(i), first[i]);
        }
        DUE.is("fits(26)", x.fits(26), 129);
        DUE.is("fits(27)", x.fits(27), 1001);
        DUE.is("fits(53)", x.fits(53), 1029);
        DUE.is("fits(54)", x.fits(54), -1);
        DUE.is("fits(-2)", x.fits(-2), -1);
        DUE.is("fits(max)", x.fits(Integer.MAX_VALUE), -1);
        // 9,000 and 1,000,000 times STRENGTH: 3,009,000 or more
        x.seen(1, 0, 3009, true);
        DUE.is("3 or stronger", x.fits(-1), 21);
        DUE.is("fits(0)", x.fits(0), 103);
        DUE.is("fits(7)", x.fits(7), 113);
        x.seen(1, 0, 5009, false);
        DUE.is("3 or 4", x.fits(-1), 6);
        DUE.is("fits(5)", x.fits(5), 124);
        x.seen(1, 0, 3009, false);
        DUE.is("none", x.fits(-1), 0);
        DUE.is("fits(0)", x.fits(0), -1);
        DUE.is("ask(0)", x.ask(0), -1);
        // less than that is not as much as that
        RememberedWeight y = Due.island("p;p");
        y.seen(1, 0, 3009, false);
        DUE.is("1 or 2, or of the other one", y.fits(-1), 6 + 27);
        y.seen(0, 8, 9, true);
        DUE.is("at least 9,000 anyhow", y.fits(-1), 33);
        y.seen(0, 8, 10, true);
        DUE.is("of the other one", y.fits(-1), 27);
    }

    /** What has been done since is not so. */
    private static void fitsAsTold() {
        RememberedWeight x = Due.island("p;p;ts1");
        x.hours(5);
        x.think(0, 1, 0, 9);
        x.think(0, 1, 0, 9);
        x.think(0, 1, 0, 9);
        x.hem(1, 9);
        x.wind(0);
        DUE.is("all", x.fits(-1), 54);
        // 9,000, 1,000,000 and 3,000,000
        x.seen(1, 0, 4009, true);
        x.seen(1, 0, 4010, false);
        DUE.is("3", x.fits(-1), 3);
        DUE.is("polite", x.fits(0), 103);
        DUE.is("a mother's", x.fits(1), 113);
        DUE.is("a tune", x.fits(2), 123);
        x.undo();
        DUE.is("as ever", x.fits(-1), 3);
        // by the LAW that holds now: polite ones alone weigh that much
        Due.enact(x, "y:k=0?s*9999*10;y:7");
        x.seen(1, 0, 1000, true);
        DUE.is("none", x.fits(-1), 0);
        x.law(-1);
        DUE.is("by no LAW", x.fits(-1), 3);
        // WIND as told, too
        RememberedWeight y = Due.island("sw5;pd1;pd1", "y:w*1000*s");
        y.wind(9);
        y.seen(1, 0, 19, true);
        y.seen(1, 0, 20, false);
        DUE.is("STRENGTH 2 in WIND 5", y.fits(0), 102);
        DUE.is("of each KIND", y.fits(-1), 3);
    }

    private static void fitsBehind() {
        // tunes last, others are gone behind two HOURS
        RememberedWeight x = Due.island("pd1;pd1", "y:k=2|a<2?s*1000;y:0");
        x.seen(0, 2, 10, true);
        DUE.is("tunes of 0", x.fits(-1), 9);
        DUE.is("fits(0)", x.fits(0), 1021);
        // of MASS 0 at HOUR 0: forgotten though it would be heavy later
        RememberedWeight y = Due.island("pd1;pd1", "y:k=1?h*1000;y:1000");
        y.seen(1, 8, 12, true);
        DUE.is("forgotten", y.fits(-1), 0);
        // a told one that is forgotten weighs no more
        RememberedWeight z = Due.island("pd1;pd1;tk1", "y:k=1?h*1000;y:1000");
        z.seen(1, 1, 10, true);
        DUE.is("of 1, no mother's", z.fits(-1), 18);
        // little behind much, much behind little: the place of the unknown one tells
        RememberedWeight w = Due.island("pd99;pd1;pd99;to1k0;ta2o1k0", "y:k=0?9999*9999;y:3");
        w.seen(1, 0, 9999, true);
        DUE.is("all", w.fits(-1), 3 * 2 * 27);
    }

    private static void goesThere() {
        RememberedWeight x = Due.island("pm1;pm2;p;ta2o0;ta2o0;ta2o0;ta2o1");
        // 0: of two, polite and mothers'; 1: of two, tunes; 2 is full
        DUE.is("fits(-1)", x.fits(-1), 2 * 18 + 2 * 9);
        DUE.is("fits(0)", x.fits(0), 101);
        DUE.is("fits(17)", x.fits(17), 119);
        DUE.is("fits(18)", x.fits(18), 201);
        DUE.is("fits(36)", x.fits(36), 1021);
        DUE.is("fits(53)", x.fits(53), 1229);
        RememberedWeight full = Due.island("p;p;t;t;t;t;ta1o0;ta1o0;ta1o0;ta1o0");
        full.forget(0, 0);
        DUE.is("no place as told", full.fits(-1), 0);
        DUE.is("ask", full.ask(0), -1);
    }

    private static void asks() {
        RememberedWeight x = Due.island("p;p");
        DUE.is("27 are alike ever", x.ask(1), 0);
        x.seen(1, 0, 10, true);
        // HEFTS of STRENGTHS 1 .. 9: behind 0 and 1 HOURS four are alike, behind 2 three (19 19, 20 20 20, 21 21 21)
        DUE.is("ask(1)", x.ask(1), 2);
        DUE.is("of the other one nothing is known", x.ask(0), 0);
        DUE.is("ask(2)", x.ask(2), -1);
        DUE.is("ask(-1)", x.ask(-1), -1);
        // all alike until a tune goes behind 8 HOURS
        RememberedWeight y = Due.island("pm2;pm2", "y:a<8?9999*9;y:9999*9*[s/5]");
        y.seen(1, 0, 10, true);
        DUE.is("fits(-1)", y.fits(-1), 9);
        DUE.is("ask(1)", y.ask(1), 8);
    }

    private static void games() {
        // 9,000 is HEFT 13, 9,009,000 is 23; of 9,000 one FLOATS in WIND 3
        RememberedWeight x = Due.island("p;p");
        int[][] gains = {{2, 12, 2}, {-10, 0, -10}, {2, 12, 2}};
        for (int i = 0; i < 3; i++) {
            for (int j = 0; j < 3; j++) {
                DUE.is("game", x.game(0, 1, i, j, 0), gains[i][j]);
                DUE.is("game", x.game(0, 1, i, j, 1), gains[j][i]);
                DUE.is("game", x.game(1, 0, i, j, 0), gains[i][j]);
            }
        }
        DUE.is("nothing has changed", x.most(7), 0);
        for (int wrong : new int[] {-1, 2, Integer.MAX_VALUE, Integer.MIN_VALUE}) {
            DUE.is("nobody", x.game(wrong, 1, 0, 0, 0), -1000000);
            DUE.is("nobody", x.game(0, wrong, 0, 0, 0), -1000000);
            DUE.is("what", x.game(0, 1, 0, 0, wrong), -1000000);
        }
        DUE.is("alike", x.game(1, 1, 0, 0, 0), -1000000);
        DUE.is("x", x.game(0, 1, 3, 0, 0), -1000000);
        DUE.is("x", x.game(0, 1, -1, 0, 0), -1000000);
        DUE.is("y", x.game(0, 1, 0, 3, 0), -1000000);
        DUE.is("y", x.game(0, 1, 0, -1, 0), -1000000);
        // of the other one alone, in the own MIND alone
        RememberedWeight y = Due.island("p;p;p;to1s9;to2s9;to1s1;ta2o1s9;ta1o0s9");
        y.hours(1);
        // 0: 4,509,000 HEFT 22; 1: 9,509,000 HEFT 23; without those of 0: 4,509,000 HEFT 22
        DUE.is("now", y.game(0, 1, 0, 0, 0), -1);
        DUE.is("given up", y.game(0, 1, 2, 0, 0), 0);
        DUE.is("both", y.game(0, 1, 2, 2, 0), 13 - 22);
        DUE.is("both", y.game(0, 1, 2, 2, 1), 22 - 13 + 2);
        // 9,509,000 and 9,000,000 is HEFT 24
        DUE.is("one more", y.game(0, 1, 1, 0, 1), 2);
    }

    private static void gamesWithoutPlace() {
        RememberedWeight x = Due.island("p;pm2;p;t;t;t;t");
        DUE.is("now", x.game(0, 1, 0, 0, 0), 13 - 23);
        DUE.is("without a place", x.game(0, 1, 1, 0, 0), 13 - 23);
        DUE.is("it does not go", x.game(0, 1, 0, 1, 0), 13 - 23);
        DUE.is("given up", x.game(0, 1, 2, 1, 0), 2);
        RememberedWeight y = Due.island("pm1;p");
        DUE.is("it goes among the polite", y.game(0, 1, 1, 0, 0), -10);
        // it is polite, not a mother's
        DUE.is("polite", Due.island("pm1;p", "y:k=0?9999;y:0").game(0, 1, 1, 0, 1), 16 - 13 + 2);
    }

    private static void rests() {
        RememberedWeight x = Due.island("p;p");
        DUE.is("how many", x.rests(0, 1, -1), 4);
        int[] due = {0, 2, 20, 22};
        for (int i = 0; i < 4; i++) {
            DUE.is("rests", x.rests(0, 1, i), due[i]);
        }
        DUE.is("rests(0, 1, 4)", x.rests(0, 1, 4), -1);
        DUE.is("rests(0, 1, -2)", x.rests(0, 1, -2), -1);
        DUE.is("alike", x.rests(1, 1, -1), -1);
        DUE.is("nobody", x.rests(0, 2, -1), -1);
        DUE.is("nobody", x.rests(-1, 0, -1), -1);
        RememberedWeight y = Due.island("p;pm2;t");
        // 0 is lighter of the other one; what the other one does is nothing
        DUE.is("how many", y.rests(0, 1, -1), 3);
        DUE.is("rests", y.rests(0, 1, 0), 20);
        DUE.is("rests", y.rests(0, 1, 2), 22);
        DUE.is("the other way", y.rests(1, 0, 1), 12);
        DUE.is("all alike", Due.island("pm2;pm2").rests(0, 1, -1), 9);
        // by a LAW by which a THOUGHT of STRENGTH 9 has no MASS nothing matters but what is given up
        RememberedWeight w = Due.island("sw0;pm1d9;pm2d9;t", "y:s=9?0;y:9999");
        DUE.is("how many", w.rests(0, 1, -1), 3);
        DUE.is("rests", w.rests(0, 1, 1), 21);
        RememberedWeight v = Due.island("sw9;p;pm1;ta1o0;ta1o0");
        DUE.is("neither by nothing nor by more", v.rests(1, 0, 0), 20);
        DUE.is("how many", v.rests(1, 0, -1), 2);
    }

    private static void nobody() {
        RememberedWeight x = new RememberedWeight();
        DUE.is("seen", x.seen(0, 0, 0, true), -1);
        DUE.is("fits", x.fits(-1), -1);
        DUE.is("fits", x.fits(0), -1);
        DUE.is("ask", x.ask(0), -1);
        DUE.is("game", x.game(0, 1, 0, 0, 0), -1000000);
        DUE.is("rests", x.rests(0, 1, -1), -1);
        DUE.is("NONE", RememberedWeight.NONE, -1);
        DUE.is("HIDDEN", RememberedWeight.HIDDEN, -1000000);
    }
}
