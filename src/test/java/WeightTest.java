/** Promises 6 to 10: WORTH by LAWS, MASS, WEIGHT, HEFT, GRAIN, what goes into a MIND. */
public final class WeightTest {
    private static final Due DUE = new Due("WeightTest");

    public static void main(String[] args) {
        worths();
        limits();
        conditions();
        letters();
        masses();
        rounding();
        littleBesideMuch();
        weightAsTold();
        minds();
        outOfReach();
        DUE.finish();
    }

    /** MASS of a polite THOUGHT of STRENGTH 5 in the MIND of somebody who is 1 DEEP. */
    private static void worth(String law, long worth) {
        DUE.is("WORTH by " + law, Due.island("pd1;p;ts5", law).thought(0, 0, 4), worth);
    }

    private static void worths() {
        worth("y:0", 0);
        worth("y:9999", 9999);
        worth("y:2+3*4", 14);
        worth("y:[2+3]*4", 20);
        worth("y:2*3+4", 10);
        worth("y:10-2-3", 5);
        worth("y:10-[2-3]", 11);
        worth("y:100/7/2", 7);
        worth("y:100/[7/2]", 33);
        worth("y:7/2*2", 6);
        worth("y:8-7/0", 8);
        worth("y:[8-7]/[3-3]", 0);
        worth("y:3-5", 0);
        // cut towards 0, not downwards
        worth("y:[0-7]/2+10", 7);
        worth("y:7/[0-2]+10", 7);
        worth(" y : s * 2 - 1 ", 9);
    }

    private static void limits() {
        worth("y:9999*9999", 1000000);
        worth("y:9999*9999-1", 999999);
        worth("y:9999*9999/1000", 1000);
        worth("y:9999*100+9999*100-9999*100", 100);
        worth("y:0-9999*100-9999*100+9999*100+101", 1);
        worth("y:[0-9999]*9999/100+9999+2", 1);
        worth("y:[0-9999]*[0-9999]/100", 10000);
        worth("y:0-9999*9999-1+9999*9999+3=3?1", 1);
    }

    private static void conditions() {
        worth("y:s=5?1;y:2", 1);
        worth("y:s=4?1;y:2", 2);
        worth("y:s<5?1;y:2", 2);
        worth("y:s<6?1;y:2", 1);
        worth("y:s>5?1;y:2", 2);
        worth("y:s>4?1;y:2", 1);
        worth("y:!s=5?1;y:2", 2);
        worth("y:!!s=5?1;y:2", 1);
        worth("y:!(s=5&k=1)?1;y:2", 1);
        // ! ahead of &, & ahead of |
        worth("y:!s=4&k=1?1;y:2", 2);
        worth("y:!s=5|k=0?1;y:2", 1);
        worth("y:s=5|k=1&k=2?1;y:2", 1);
        worth("y:(s=5|k=1)&k=2?1;y:2", 2);
        worth("y:s=5&k=0&a=0?1;y:2", 1);
        worth("y:s=4|k=1|a=1?1;y:2", 2);
        // the first that holds, 0 without
        worth("y:s=1?1", 0);
        worth("y:s=1?1;y:s=5?2;y:3", 2);
        worth("y:1;y:2", 1);
        worth("y:s=1?1;y:k=1?2;y:a=0?3;y:4", 3);
    }

    private static void letters() {
        RememberedWeight x = Due.island("sw7;p;pm2d1;ta1o0k2s6",
                "y:s*1000+k*100+[w*10]+h;y:0");
        DUE.is("s k w h", x.thought(1, 0, 4), 6270);
        x.hours(5);
        DUE.is("s k w h 5 HOURS later", x.thought(1, 0, 4), 6275);
        x.wind(0);
        x.hours(18);
        DUE.is("h 23", x.thought(1, 0, 4), 6223);
        x.hours(1);
        DUE.is("h 0", x.thought(1, 0, 4), 6200);
        RememberedWeight y = Due.island("p;pd3;ta1o0", "y:1000*a+d");
        DUE.is("a d", y.thought(1, 0, 4), 9);
        y.hours(2);
        DUE.is("a d two HOURS later", y.thought(1, 0, 4), 6009);
    }

    private static void masses() {
        RememberedWeight x = Due.island("pd99;p;ts9;to1k1s8;to1k2s7;to1k0s1");
        int[] strengths = {9, 8, 7, 1};
        for (int i = 0; i < 4; i++) {
            DUE.is("MASS at AGE 0", x.thought(0, i, 4), 9900000L * strengths[i]);
        }
        x.hours(6);
        for (int i = 0; i < 4; i++) {
            // 100,000 times STRENGTH by 7, cut, times 99, in eights from 2 to the 26, in fours, twos
            long worth = 100000L * strengths[i] / 7;
            DUE.is("MASS at AGE 6", x.thought(0, i, 4), worth * 99);
        }
        // WORTH is held within 0 .. 1,000,000 ahead of how DEEP
        DUE.is("much", Due.island("pd99;p;t", "y:9999*9999").thought(0, 0, 4), 99000000);
        DUE.is("less than nothing", Due.island("pd99;p;t", "y:0-1").thought(0, 0, 4), 0);
    }

    /** MASS of WORTH times 99; HEFT and GRAIN. */
    private static void rounding() {
        // 99 times 169,467 is 16,777,233: odd and above 2 to the 24, between 16,777,232 and 16,777,234
        DUE.is("a tie", Due.island("pd99;p;t", "y:9999*16+9483").thought(0, 0, 4), 16777232);
        // 99 times 169,469 is 16,777,431: of ..430 and ..432 the one whose 24th digit is 0, ..432 (half of it is even)
        DUE.is("a tie upwards", Due.island("pd99;p;t", "y:9999*16+9485").thought(0, 0, 4), 16777432);
        // 38,000 and 99 times 169,083: 2 to the 24 and 1
        DUE.is("sum, a tie", weightBy("pb38;pd99;ta1o0", 169083), 16777216);
        // 58,000 and 99 times 168,881: 2 to the 24 and 3
        DUE.is("sum, a tie upwards", weightBy("pb58;pd99;ta1o0", 168881), 16777220);
        DUE.is("sum, even", weightBy("pb48;pd99;ta1o0", 168982), 16777218);
        DUE.is("sum, 2 to the 24", weightBy("pb28;pd99;ta1o0", 169184), 16777216);
        RememberedWeight x = Due.island("pb9;pb1;pb16d10;ta2o1s9");
        DUE.is("HEFT of 9,000", Due.person(x, 0, 4), 13);
        DUE.is("GRAIN of 9,000", Due.person(x, 0, 5), (9000 - 8192) * 1024);
        DUE.is("HEFT of 9,001,000", Due.person(x, 1, 4), 23);
        DUE.is("GRAIN of 9,001,000", Due.person(x, 1, 5), 9001000 - 8388608);
        DUE.is("HEFT of 16,000", Due.person(x, 2, 4), 13);
        DUE.is("GRAIN of 16,000", Due.person(x, 2, 5), (16000 - 8192) * 1024);
        RememberedWeight y = Due.island("pb58;pd99;ta1o0", "y:9999*16+8897");
        DUE.is("HEFT of 16,777,220", Due.person(y, 0, 4), 24);
        DUE.is("GRAIN of 16,777,220", Due.person(y, 0, 5), 2);
        RememberedWeight z = Due.island("pb28;pd99;ta1o0", "y:9999*16+9200");
        DUE.is("HEFT of 2 to the 24", Due.person(z, 0, 4), 24);
        DUE.is("GRAIN of 2 to the 24", Due.person(z, 0, 5), 0);
    }

    private static long weightBy(String island, int worth) {
        RememberedWeight x = Due.island(island, "y:9999*" + worth / 9999 + "+" + worth % 9999);
        return Due.person(x, 0, 3);
    }

    /** Ahead of 99,000,000 twos count; behind it, where eights alone are kept, they are nothing. */
    private static void littleBesideMuch() {
        String law = "y:k=0?9999*9999;y:2";
        String behind = "pd99;pb8;pd1;ta0o1k0;ta2o1k2;ta2o1k2;ta2o1k2;ta2o1k2";
        String ahead = "pd1;pb8;pd99;ta2o1k0;ta0o1k2;ta0o1k2;ta0o1k2;ta0o1k2";
        DUE.is("much ahead", Due.person(Due.island(behind, law), 1, 3), 99008000);
        DUE.is("little ahead", Due.person(Due.island(ahead, law), 1, 3), 99008008);
        // places of one MIND rising: 2 times 3 in the first ones
        DUE.is("within a MIND, much ahead",
                Due.person(Due.island("pd9;pb8;tk0;tk2;tk2;tk2", "y:k=0?9999*9999*4;y:1"), 1, 3), 9008027);
        RememberedWeight x = Due.island("pd99;pb8;tk0;tk2;tk2;tk2", "y:k=0?9999*9999;y:h=0?0;y:1");
        DUE.is("99s are rounded one by one", Due.person(x, 1, 3), 99008000);
        x.hours(1);
        DUE.is("those of no MASS are forgotten", x.most(7), 1);
    }

    private static void weightAsTold() {
        StringBuilder text = new StringBuilder("pb1d99;pd99;pd99;pd99;pd99;pd99;pd99;pd99");
        for (int i = 0; i < 12; i++) {
            text.append(";ta").append(1 + i % 7).append("o0s9");
        }
        RememberedWeight x = Due.island(text.toString(), "y:9999*9999");
        for (int i = 1; i < 8; i++) {
            for (int j = 0; j < 4; j++) {
                x.think(i, 0, 0, 9);
            }
        }
        DUE.is("THOUGHTS", x.most(7), 28);
        DUE.is("FULL", x.most(8), 254);
        DUE.is("WEIGHT as told", Due.person(x, 0, 3), 2147483647);
        DUE.is("HEFT", Due.person(x, 0, 4), 31);
        // 1,000 and 28 times 99,000,000, rounded to 8, 16, .. 256 on the way
        long weight = 1000;
        for (int i = 0; i < 28; i++) {
            weight = (long) (float) (weight + 99000000L);
        }
        DUE.is("GRAIN", Due.person(x, 0, 5), (weight >> 8) - (1 << 23));
        DUE.is("behind(0, 0)", x.behind(0, 0), 2147483647);
        DUE.is("load(1)", x.load(1), 2147483647);
        DUE.is("load(2)", x.load(2), 9000);
        DUE.is("shares(0, 999)", x.shares(0, 999), 999L * 2147483647L / (2147483647L + 63000));
        DUE.is("HEAVIEST", x.most(0), 0);
        DUE.is("one alone is too much yet", x.eased(0), 28);
    }

    private static void minds() {
        RememberedWeight x = Due.island("pm0;pm1;pm2");
        int[][] goes = {{1, 1, 1}, {1, 1, 0}, {0, 0, 1}};
        for (int person = 0; person < 3; person++) {
            for (int kind = 0; kind < 3; kind++) {
                DUE.is("goes", x.goes(person, kind), goes[person][kind]);
                DUE.is("think", x.think(person, (person + 1) % 3, kind, 1) >= 0, goes[person][kind] == 1);
            }
        }
        for (int i = 0; i < 4; i++) {
            x.think(0, 1, 0, 1);
        }
        DUE.is("goes into a full MIND", x.goes(0, 0), 1);
        DUE.is("goes(0, 3)", x.goes(0, 3), -1);
        DUE.is("goes(0, -1)", x.goes(0, -1), -1);
        DUE.is("goes(3, 0)", x.goes(3, 0), -1);
        DUE.is("goes(-1, 0)", x.goes(-1, 0), -1);
    }

    private static void outOfReach() {
        RememberedWeight x = Due.island("p;p;t");
        for (int wrong : new int[] {-1, 2, Integer.MAX_VALUE, Integer.MIN_VALUE}) {
            DUE.is("person", Due.person(x, wrong, 0), Due.THROWS);
            DUE.is("thought", x.thought(wrong, 0, 0), -1);
        }
        for (int wrong : new int[] {-1, 6, Integer.MAX_VALUE, Integer.MIN_VALUE}) {
            DUE.is("person", Due.person(x, 0, wrong), Due.THROWS);
            DUE.is("thought", x.thought(0, 0, wrong), -1);
            DUE.is("rule", x.rule(wrong), -1);
        }
        DUE.is("rule(4)", x.rule(4), -1);
        DUE.is("thought(0, 0, 5)", x.thought(0, 0, 5), -1);
        DUE.is("thought(0, 1, 0)", x.thought(0, 1, 0), -1);
        DUE.is("thought(0, 4, 0)", x.thought(0, 4, 0), -1);
        DUE.is("thought(0, -1, 0)", x.thought(0, -1, 0), -1);
        DUE.is("thought(1, 0, 0)", x.thought(1, 0, 0), -1);
    }
}
