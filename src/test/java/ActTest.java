/** Promises 12 to 21, 37 and 38: ACTS, what is refused, the LOG, YEARS, what is UNDONE, IMAGES. */
public final class ActTest {
    private static final Due DUE = new Due("ActTest");

    public static void main(String[] args) {
        withoutIsland();
        hours();
        lastHour();
        forgotten();
        ages();
        thinking();
        forgetting();
        hems();
        winds();
        giving();
        status();
        logs();
        longLog();
        undone();
        undoneOneByOne();
        years();
        yearsRefused();
        images();
        DUE.finish();
    }

    private static void statuses(RememberedWeight x, int... due) {
        for (int i = 0; i < due.length; i++) {
            DUE.is("status(" + i + ")", x.status(i), due[i]);
        }
    }

    private static void withoutIsland() {
        RememberedWeight x = new RememberedWeight();
        DUE.is("hours(0)", x.hours(0), -1);
        DUE.is("think", x.think(0, 0, 9, 9), -1);
        DUE.is("forget", x.forget(0, 9), -1);
        DUE.is("hem", x.hem(0, 0), -1);
        DUE.is("wind(10)", x.wind(10), -1);
        DUE.is("give(0)", x.give(0), -1);
        DUE.is("years", x.years(1, 1), -1);
        DUE.is("undo", x.undo(), -1);
        DUE.is("image", x.image(), -1);
        DUE.is("back", x.back(), -1);
        statuses(x, 6, 0, 0, 0, 0);
    }

    private static void hours() {
        RememberedWeight x = Due.island("p;p;ts4");
        DUE.is("hours(1)", x.hours(1), 1);
        DUE.is("hours(60)", x.hours(60), 61);
        DUE.is("count(4)", x.count(4), 61);
        DUE.is("AGE", x.thought(0, 0, 3), 61);
        DUE.is("MASS", x.thought(0, 0, 4), 400000 / 62 * 10);
        for (int wrong : new int[] {0, 61, -1, Integer.MAX_VALUE, Integer.MIN_VALUE}) {
            DUE.is("hours", x.hours(wrong), -1);
        }
        DUE.is("count(4)", x.count(4), 61);
        statuses(x, 0, 5, 0, 0, 0);
    }

    private static void lastHour() {
        RememberedWeight x = Due.island("sw0;p;p;ts4", "y:a+h");
        for (int i = 1; i <= 166; i++) {
            DUE.is("hours(60)", x.hours(60), 60 * i);
        }
        DUE.is("hours(40)", x.hours(40), -1);
        DUE.is("years(40)", x.years(40, 1), -1);
        DUE.is("count(4)", x.count(4), 9960);
        DUE.is("hours(38)", x.hours(38), 9998);
        DUE.is("hours(2)", x.hours(2), -1);
        DUE.is("hours(1)", x.hours(1), 9999);
        DUE.is("hours(1)", x.hours(1), -1);
        DUE.is("hours(61)", x.hours(61), -1);
        DUE.is("years(1)", x.years(1, 1), -1);
        statuses(x, 0, 1, 0, 0, 3);
        DUE.is("count(7)", x.count(7), 60);
        DUE.is("forgotten at HOUR 0, when its MASS was 0", x.most(7), 0);
        DUE.is("think", x.think(0, 1, 0, 1), 0);
        // 9,999 modulo 24 is 15; d is 10, AGE 0
        DUE.is("MASS", x.thought(0, 0, 4), 150);
        DUE.is("behind the last HOUR", x.behind(1, 10), 9000 + 10 * (10 + 1));
        DUE.is("undo", x.undo(), 39);
        DUE.is("undo", x.undo(), 38);
        DUE.is("hours(1)", x.hours(1), 9999);
        DUE.is("undo", x.undo(), 38);
        DUE.is("years(1)", x.years(1, 1), 9999);
    }

    private static void forgotten() {
        RememberedWeight x = Due.island("p;p;ts9;ts1;ta1o0", "y:s>8?2-a;y:k+1");
        DUE.is("hours(2)", x.hours(2), 2);
        DUE.is("MASS 0 now", x.thought(0, 0, 4), 0);
        DUE.is("yet it is there", x.thought(0, 0, 3), 2);
        DUE.is("THOUGHTS", x.most(7), 3);
        DUE.is("hours(1)", x.hours(1), 3);
        DUE.is("its place is empty", x.thought(0, 0, 3), -1);
        DUE.is("others stay where they were", x.thought(0, 1, 3), 3);
        DUE.is("THOUGHTS", x.log(0, 2), 2);
        DUE.is("THOUGHTS", x.log(1, 2), 3);
        DUE.is("think", x.think(0, 1, 0, 3), 0);
        // by how it was as the HOUR began: at HOUR 0 its MASS is 0, later it would not be
        RememberedWeight y = Due.island("p;p;t", "y:h");
        DUE.is("hours(1)", y.hours(1), 1);
        DUE.is("forgotten", y.most(7), 0);
        // at HOUR 0 its MASS is 10, at HOUR 1 it is 0: it goes with the second HOUR
        RememberedWeight z = Due.island("p;p;t", "y:1-h");
        z.hours(1);
        DUE.is("not yet", z.most(7), 1);
        z.hours(1);
        DUE.is("now", z.most(7), 0);
    }

    private static void ages() {
        RememberedWeight x = Due.island("p;p;ts1");
        x.hours(60);
        x.hours(38);
        DUE.is("AGE", x.thought(0, 0, 3), 98);
        x.hours(1);
        DUE.is("AGE", x.thought(0, 0, 3), 99);
        DUE.is("MASS", x.thought(0, 0, 4), 10000);
        x.hours(1);
        DUE.is("AGE", x.thought(0, 0, 3), 99);
        DUE.is("MASS", x.thought(0, 0, 4), 10000);
        DUE.is("OLDEST", x.most(9), 99);
    }

    private static void thinking() {
        RememberedWeight x = Due.island("p;pm1;pm2;t;ta1o0");
        x.hours(2);
        DUE.is("the lowest place", x.think(0, 2, 2, 9), 1);
        int[] due = {2, 2, 9, 0, 9000000};
        for (int what = 0; what < 5; what++) {
            DUE.is("thought", x.thought(0, 1, what), due[what]);
        }
        DUE.is("the next", x.think(0, 1, 1, 1), 2);
        DUE.is("the next", x.think(0, 1, 0, 1), 3);
        DUE.is("no place", x.think(0, 1, 0, 1), -1);
        DUE.is("forget", x.forget(0, 1), 2);
        DUE.is("the lowest place", x.think(0, 1, 0, 1), 1);
        x.hours(4);
        x.forget(0, 3);
        DUE.is("the lowest place", x.think(0, 1, 0, 1), 3);
        DUE.is("AGE is 0 where an older one lay", x.thought(0, 3, 3), 0);
        statuses(x, 0, 0, 0, 1, 0);
        DUE.is("nobody", x.think(3, 0, 0, 1), -1);
        DUE.is("nobody", x.think(0, 3, 0, 1), -1);
        DUE.is("nobody", x.think(-1, 0, 3, 0), -1);
        statuses(x, 3, 0, 0, 1, 0);
        DUE.is("alike", x.think(0, 0, 0, 1), -1);
        DUE.is("KIND", x.think(0, 1, 3, 1), -1);
        DUE.is("KIND", x.think(0, 1, -1, 1), -1);
        DUE.is("STRENGTH", x.think(2, 1, 0, 0), -1);
        DUE.is("STRENGTH", x.think(0, 1, 0, 10), -1);
        statuses(x, 3, 5, 0, 1, 0);
        DUE.is("a tune among the polite", x.think(1, 0, 2, 1), -1);
        DUE.is("a mother's among tunes", x.think(2, 0, 1, 1), -1);
        DUE.is("the polite among tunes", x.think(2, 0, 0, 1), -1);
        statuses(x, 3, 5, 3, 1, 0);
        DUE.is("a mother's among the polite", x.think(1, 0, 1, 1), 1);
        DUE.is("a tune among tunes", x.think(2, 0, 2, 1), 0);
    }

    private static void forgetting() {
        RememberedWeight x = Due.island("p;p;p;to2;to1");
        DUE.is("of whom", x.forget(0, 0), 2);
        DUE.is("the other one stays", x.thought(0, 1, 0), 1);
        DUE.is("none there", x.forget(0, 0), -1);
        DUE.is("none there", x.forget(2, 3), -1);
        statuses(x, 0, 0, 2, 0, 0);
        DUE.is("no such place", x.forget(0, 4), -1);
        DUE.is("no such place", x.forget(0, -1), -1);
        DUE.is("nobody", x.forget(3, 4), -1);
        DUE.is("nobody", x.forget(-1, 0), -1);
        statuses(x, 2, 2, 2, 0, 0);
        DUE.is("count(8)", x.count(8), 1);
    }

    private static void hems() {
        RememberedWeight x = Due.island("sk19;pb85;p");
        DUE.is("hem(0, 9)", x.hem(0, 9), 94);
        DUE.is("COINS", x.rule(3), 10);
        DUE.is("WEIGHT", Due.person(x, 0, 3), 94000);
        DUE.is("above 99", x.hem(0, 6), -1);
        DUE.is("hem(0, 5)", x.hem(0, 5), 99);
        DUE.is("above 99", x.hem(0, 1), -1);
        DUE.is("too few COINS", x.hem(1, 6), -1);
        DUE.is("hem(1, 5)", x.hem(1, 5), 14);
        DUE.is("COINS", x.rule(3), 0);
        DUE.is("too few COINS", x.hem(1, 1), -1);
        statuses(x, 0, 0, 0, 4, 0);
        DUE.is("out of bounds", x.hem(0, 0), -1);
        DUE.is("out of bounds", x.hem(0, 10), -1);
        DUE.is("out of bounds", x.hem(0, Integer.MIN_VALUE), -1);
        DUE.is("nobody", x.hem(2, 0), -1);
        DUE.is("nobody", x.hem(-1, 1), -1);
        statuses(x, 2, 3, 0, 4, 0);
        DUE.is("COINS", x.rule(3), 0);
        DUE.is("count(8)", x.count(8), 3);
    }

    private static void winds() {
        RememberedWeight x = Due.island("p;p");
        DUE.is("wind(0)", x.wind(0), 3);
        DUE.is("wind(9)", x.wind(9), 0);
        DUE.is("it is so", x.wind(9), -1);
        DUE.is("out of bounds", x.wind(10), -1);
        DUE.is("out of bounds", x.wind(-1), -1);
        DUE.is("WIND", x.rule(0), 9);
        statuses(x, 0, 2, 1, 0, 0);
        DUE.is("count(8)", x.count(8), 2);
    }

    private static void giving() {
        RememberedWeight x = Due.island("p;p");
        for (int i = 1; i <= 19; i++) {
            DUE.is("give(50)", x.give(50), 20 + 50 * i);
        }
        DUE.is("above 999", x.give(30), -1);
        DUE.is("give(29)", x.give(29), 999);
        DUE.is("above 999", x.give(1), -1);
        DUE.is("out of bounds", x.give(0), -1);
        DUE.is("out of bounds", x.give(51), -1);
        DUE.is("out of bounds", x.give(-5), -1);
        DUE.is("COINS", x.rule(3), 999);
        statuses(x, 0, 3, 0, 2, 0);
    }

    private static void status() {
        RememberedWeight x = Due.island("p;p");
        DUE.is("status(-1)", x.status(-1), -1);
        DUE.is("status(5)", x.status(5), -1);
        x.think(0, 1, 0, 1);
        x.think(0, 0, 0, 1);
        x.undo();
        x.image();
        x.wind(3);
        x.back();
        statuses(x, 0, 1, 1, 0, 0);
        // what is refused of other calls is not counted
        x.years(0, 0);
        x.undo();
        x.undo();
        x.seen(9, 9, 9, true);
        x.behind(0, 99);
        x.law(9);
        x.memory(99);
        statuses(x, 0, 1, 1, 0, 0);
    }

    private static void logs() {
        // the one who is thought of weighs 1,009,000, 509,000, 342,330 ..
        RememberedWeight x = Due.island("sw3g1;pb30;pb9;p;ts1;ta1o2s9");
        DUE.is("SINKING", x.most(5), 6);
        DUE.is("no LOG", x.log(0, 0), -1);
        x.hours(1);
        DUE.is("FLOATS: 30,000 is not less than 10,000 times 3", x.log(0, 0), 0);
        DUE.is("SINKS then", x.log(0, 1), 4);
        DUE.is("THOUGHTS", x.log(0, 2), 2);
        x.forget(1, 0);
        x.hours(2);
        DUE.is("FLOATS", x.log(0, 0), 4);
        DUE.is("SINKS", x.log(0, 1), 0);
        DUE.is("THOUGHTS", x.log(0, 2), 1);
        DUE.is("the one ahead", x.log(1, 2), 1);
        DUE.is("the first", x.log(2, 2), 2);
        DUE.is("count(7)", x.count(7), 3);
        DUE.is("log(3, 0)", x.log(3, 0), -1);
        DUE.is("log(-1, 0)", x.log(-1, 0), -1);
        DUE.is("log(0, 3)", x.log(0, 3), -1);
        DUE.is("log(0, -1)", x.log(0, -1), -1);
        DUE.is("hand does not write", x.wind(9), 3);
        DUE.is("FLOATS as it was", x.log(0, 0), 4);
    }

    private static void longLog() {
        RememberedWeight x = Due.island("p;p;t;t");
        x.hours(1);
        x.forget(0, 0);
        x.hours(59);
        DUE.is("count(7)", x.count(7), 60);
        DUE.is("the first", x.log(59, 2), 2);
        DUE.is("the second", x.log(58, 2), 1);
        x.image();
        x.hours(1);
        DUE.is("count(7)", x.count(7), 60);
        DUE.is("the first is gone", x.log(59, 2), 1);
        DUE.is("log(60, 2)", x.log(60, 2), -1);
        x.hours(2);
        x.undo();
        x.undo();
        x.undo();
        DUE.is("the first is there again", x.log(59, 2), 2);
        x.hours(60);
        x.hours(60);
        DUE.is("gone", x.log(59, 2), 1);
        DUE.is("back", x.back(), 60);
        DUE.is("again", x.log(59, 2), 2);
        DUE.is("and what came behind it", x.log(58, 2), 1);
    }

    private static void undone() {
        RememberedWeight x = Due.island("p;p;ts2");
        x.hours(2);
        x.hem(1, 3);
        x.wind(7);
        x.give(5);
        x.think(1, 0, 2, 4);
        x.forget(0, 0);
        DUE.is("count(8)", x.count(8), 7);
        DUE.is("undo forget", x.undo(), 6);
        DUE.is("of whom", x.thought(0, 0, 0), 1);
        DUE.is("AGE", x.thought(0, 0, 3), 2);
        DUE.is("undo think", x.undo(), 5);
        DUE.is("none there", x.thought(1, 0, 0), -1);
        DUE.is("undo give", x.undo(), 4);
        DUE.is("COINS", x.rule(3), 17);
        DUE.is("undo wind", x.undo(), 3);
        DUE.is("WIND", x.rule(0), 3);
        DUE.is("undo hem", x.undo(), 2);
        DUE.is("COINS", x.rule(3), 20);
        DUE.is("BODY", Due.person(x, 1, 0), 9);
        DUE.is("undo an HOUR", x.undo(), 1);
        DUE.is("count(4)", x.count(4), 1);
        DUE.is("count(7)", x.count(7), 1);
        DUE.is("AGE", x.thought(0, 0, 3), 1);
        DUE.is("undo an HOUR", x.undo(), 0);
        DUE.is("count(7)", x.count(7), 0);
        DUE.is("none", x.undo(), -1);
        DUE.is("count(8)", x.count(8), 0);
    }

    private static void undoneOneByOne() {
        RememberedWeight x = Due.island("p;p;ts2");
        x.give(1);
        x.hours(39);
        DUE.is("count(8)", x.count(8), 40);
        x.wind(0);
        DUE.is("count(8)", x.count(8), 40);
        for (int i = 39; i >= 0; i--) {
            DUE.is("undo", x.undo(), i);
        }
        DUE.is("undo", x.undo(), -1);
        DUE.is("the first one is not UNDONE", x.rule(3), 21);
        DUE.is("count(4)", x.count(4), 0);
        // LAWS, MEMORY, SEEN are none
        x.memory(1);
        x.seen(0, 0, 0, true);
        DUE.is("undo", x.undo(), -1);
        x.hours(60);
        DUE.is("count(8)", x.count(8), 40);
        for (int i = 39; i >= 30; i--) {
            DUE.is("undo", x.undo(), i);
        }
        DUE.is("count(4)", x.count(4), 50);
        x.give(1);
        DUE.is("count(8)", x.count(8), 31);
        DUE.is("undo", x.undo(), 30);
        DUE.is("undo", x.undo(), 29);
        DUE.is("count(4)", x.count(4), 49);
    }

    /** By draws that were reckoned apart: of seed 42 draws of 10 are 4 6 8 3 4 6 9 0. */
    private static void years() {
        RememberedWeight x = Due.island("p;p;p");
        x.memory(0);
        DUE.is("years(2, 42)", x.years(2, 42), 2);
        DUE.is("WIND", x.rule(0), 8);
        DUE.is("THOUGHTS", x.most(7), 0);
        DUE.is("count(8)", x.count(8), 2);
        DUE.is("FLOATS in WIND 8", x.log(0, 0), 7);
        DUE.is("undo", x.undo(), 1);
        DUE.is("WIND", x.rule(0), 4);
        DUE.is("count(4)", x.count(4), 1);
        DUE.is("undo", x.undo(), 0);
        DUE.is("WIND", x.rule(0), 3);
        DUE.is("years(4, 42)", x.years(4, 42), 4);
        DUE.is("WIND", x.rule(0), 9);
        // of seed 42 with MEMORY 9: 4 6: 1 0 2 8, 9 0: 2 2 1 6, 2 4: 1 1 1 3, 9 4: 2 2 0 9
        RememberedWeight y = Due.island("p;p;p");
        y.memory(9);
        DUE.is("years(1, 42)", y.years(1, 42), 1);
        DUE.is("WIND", y.rule(0), 4);
        int[] due = {0, 2, 8, 1};
        for (int what = 0; what < 4; what++) {
            DUE.is("thought", y.thought(1, 0, what), due[what]);
        }
        DUE.is("undo", y.undo(), 0);
        DUE.is("THOUGHTS", y.most(7), 0);
        DUE.is("years(4, 42)", y.years(4, 42), 4);
        DUE.is("WIND", y.rule(0), 9);
        DUE.is("AGE", y.thought(1, 0, 3), 4);
        DUE.is("THOUGHTS", y.most(7), 1);
        // of seed 5: 2 3: 1 1 1 6, 9 9, 0 4: 0 0 0 3, 3 7: 2 0 1 4
        DUE.is("years(4, 5)", y.years(4, 5), 8);
        DUE.is("WIND", y.rule(0), 3);
        int[] later = {0, 1, 4, 1};
        for (int what = 0; what < 4; what++) {
            DUE.is("thought", y.thought(2, 0, what), later[what]);
        }
        DUE.is("THOUGHTS", y.log(0, 2), 2);
        // it does not go into a MIND of the polite
        RememberedWeight z = Due.island("p;pm1;p");
        z.memory(9);
        DUE.is("years(1, 42)", z.years(1, 42), 1);
        DUE.is("THOUGHTS", z.most(7), 0);
        DUE.is("status(2)", z.status(2), 0);
        // no place
        RememberedWeight full = Due.island("p;p;p;ta1o0;ta1o0;ta1o0;ta1o0");
        full.memory(9);
        DUE.is("years(1, 42)", full.years(1, 42), 1);
        DUE.is("THOUGHTS", full.most(7), 4);
        DUE.is("status(3)", full.status(3), 0);
        DUE.is("seed -1", z.years(1, -1), 2);
        DUE.is("WIND", z.rule(0), 8);
    }

    private static void yearsRefused() {
        RememberedWeight x = Due.island("p;p");
        DUE.is("years(0)", x.years(0, 1), -1);
        DUE.is("years(61)", x.years(61, 1), -1);
        DUE.is("years(-1)", x.years(-1, 1), -1);
        DUE.is("years(60)", x.years(60, 1), 60);
        DUE.is("count(8)", x.count(8), 40);
        statuses(x, 0, 0, 0, 0, 0);
    }

    private static void images() {
        RememberedWeight x = Due.island("p;p;ts2;ta1o0");
        DUE.is("no IMAGE", x.back(), -1);
        x.hours(2);
        x.hem(0, 2);
        x.wind(1);
        DUE.is("image", x.image(), 2);
        DUE.is("it is no ACT", x.count(8), 4);
        x.hours(3);
        x.hem(0, 2);
        x.hem(1, 2);
        x.wind(2);
        x.give(40);
        x.forget(0, 0);
        x.think(1, 0, 0, 9);
        DUE.is("back", x.back(), 2);
        DUE.is("count(4)", x.count(4), 2);
        DUE.is("count(7)", x.count(7), 2);
        DUE.is("count(8)", x.count(8), 0);
        DUE.is("undo", x.undo(), -1);
        DUE.is("BODY", Due.person(x, 0, 0), 11);
        DUE.is("BODY", Due.person(x, 1, 0), 9);
        DUE.is("WIND", x.rule(0), 1);
        DUE.is("COINS", x.rule(3), 18);
        DUE.is("AGE", x.thought(0, 0, 3), 2);
        DUE.is("THOUGHTS", x.most(7), 2);
        x.give(2);
        DUE.is("count(8)", x.count(8), 1);
        DUE.is("back again", x.back(), 2);
        DUE.is("COINS", x.rule(3), 18);
        x.hours(1);
        DUE.is("another image", x.image(), 3);
        x.undo();
        DUE.is("count(4)", x.count(4), 2);
        DUE.is("back", x.back(), 3);
    }
}
