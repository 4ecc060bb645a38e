import java.util.List;

/**
 * All promises: each argument of each call just inside its bounds, just outside, far outside. What is refused answers
 * as told and changes nothing but STATUS.
 */
public final class BoundsTest {
    private static final Due DUE = new Due("BoundsTest");
    private static final int MIN = Integer.MIN_VALUE;
    private static final int MAX = Integer.MAX_VALUE;
    private static final int NO_STATUS = -1;
    private static final int HIDDEN = -1000000;

    /** A call with one argument left open. */
    private interface Call {
        long on(RememberedWeight x, int v);
    }

    public static void main(String[] args) {
        texts();
        looks();
        minds();
        acts();
        actsOfPersons();
        years();
        apart();
        riddles();
        games();
        counts();
        refusedOtherwise();
        refusedBetweenActs();
        withoutIsland();
        DUE.finish();
    }

    /**
     * Four PERSONS behind three HOURS: 0 is thought of by 1 (STRENGTH 2) and by 2 (a tune, 4), 1 by 0 (5 and 1), 2 by
     * 0 (a mother's 1 and a tune 1), 3 by nobody. Of AGE 3 a MASS is 250,000 times STRENGTH, in the MIND of 0, who is
     * 9 DEEP, 225,000 times. WEIGHTS: 1,509,000 1,358,000 457,000 5,000. The first MIND is full.
     */
    private static RememberedWeight busy() {
        RememberedWeight x = new RememberedWeight();
        for (int i = 0; i < 4; i++) {
            Due.feed(x, "y:" + (i + 1));
            x.text(1);
        }
        x.memory(7);
        Due.feed(x, "sw5g1b2k50;pb9d9;pm1b7;pm2b7;pb5;ta0o1s5;ta0o1s1;ta0o2k1s1;ta0o2k2s1;ta1o0s2;ta2o0k2s4");
        x.text(0);
        x.hours(3);
        x.hem(1, 1);
        x.image();
        x.seen(0, 0, 9, true);
        Due.feed(x, "p;p;t");
        return x;
    }

    /** A call answers at its lowest and at its highest argument, and is refused beside them and far from them. */
    private static void bounds(String call, Call c, int low, long atLow, int high, long atHigh, long refused, int status) {
        DUE.is(call + " of " + low, c.on(busy(), low), atLow);
        DUE.is(call + " of " + high, c.on(busy(), high), atHigh);
        refused(call, c, low, high, refused, status);
    }

    private static void refused(String call, Call c, int low, int high, long refused, int status) {
        // the last ones would be within the bounds again, if their highest bits were lost on the way
        int[] outside = {low - 1, high + 1, MIN, MAX, MIN + 1, -1000000000, 1000000000, low + (1 << 8), low + (1 << 16),
            low + (1 << 30), low + (3 << 29), MIN + high};
        for (int v : outside) {
            if (v < low || v > high) {
                refused(call + " of " + v, c, v, refused, status);
            }
        }
    }

    private static void refused(String call, Call c, int v, long refused, int status) {
        RememberedWeight x = busy();
        List<Long> whole = Whole.of(x);
        DUE.is(call, c.on(x, v), refused);
        DUE.is("refused, " + call + " changes nothing", Whole.of(x).equals(whole), true);
        int[] now = Whole.status(x);
        for (int i = 0; i < 5; i++) {
            DUE.is("status(" + i + ") behind " + call, now[i], i == status ? 1 : 0);
        }
    }

    private static void ofPersons(String call, Call c, long refused, int status) {
        refused(call, c, 0, 3, refused, status);
    }

    private static void texts() {
        bounds("end", (x, v) -> x.end(v) ? x.count(2) : -1, 0, 0, 5, 5, -1, NO_STATUS);
        bounds("fault", (x, v) -> x.fault(v), 0, -1, 1, 0, -2, NO_STATUS);
        refused("text", (x, v) -> x.text(v), 0, 1, -1, NO_STATUS);
        bounds("law", (x, v) -> x.law(v) ? x.count(3) : -5, -1, -1, 3, 3, -5, NO_STATUS);
        bounds("memory", (x, v) -> x.memory(v) ? x.count(5) : -5, 0, 0, 9, 9, -5, NO_STATUS);
    }

    private static void looks() {
        bounds("rule", (x, v) -> x.rule(v), 0, 5, 3, 49, -1, NO_STATUS);
        bounds("person(v, 0)", (x, v) -> Due.person(x, v, 0), 0, 9, 3, 5, Due.THROWS, NO_STATUS);
        bounds("person(v, 3)", (x, v) -> Due.person(x, v, 3), 0, 1509000, 3, 5000, Due.THROWS, NO_STATUS);
        for (int what = 1; what <= 5; what++) {
            int w = what;
            ofPersons("person(v, " + w + ")", (x, v) -> Due.person(x, v, w), Due.THROWS, NO_STATUS);
        }
        // 1,509,000 is 2 to the 20 and 460,424: with three 0 behind its 21 digits 8 times as much
        bounds("person(0, v)", (x, v) -> Due.person(x, 0, v), 0, 9, 5, 3683392, Due.THROWS, NO_STATUS);
        bounds("status", (x, v) -> x.status(v), 0, 0, 4, 0, -1, NO_STATUS);
        bounds("log(v, 2)", (x, v) -> x.log(v, 2), 0, 6, 2, 6, -1, NO_STATUS);
        bounds("log(0, v)", (x, v) -> x.log(0, v), 0, 8, 2, 6, -1, NO_STATUS);
        bounds("log(2, v)", (x, v) -> x.log(2, v), 0, 8, 2, 6, -1, NO_STATUS);
    }

    private static void minds() {
        bounds("thought(v, 0, 0)", (x, v) -> x.thought(v, 0, 0), 0, 1, 2, 0, -1, NO_STATUS);
        ofPersons("thought(v, 0, 4)", (x, v) -> x.thought(v, 0, 4), -1, NO_STATUS);
        bounds("thought(0, v, 0)", (x, v) -> x.thought(0, v, 0), 0, 1, 3, 2, -1, NO_STATUS);
        bounds("thought(1, v, 0)", (x, v) -> x.thought(1, v, 0), 0, 0, 0, 0, -1, NO_STATUS);
        bounds("thought(0, 0, v)", (x, v) -> x.thought(0, 0, v), 0, 1, 4, 1125000, -1, NO_STATUS);
        bounds("goes(v, 2)", (x, v) -> x.goes(v, 2), 0, 1, 3, 1, -1, NO_STATUS);
        bounds("goes(1, v)", (x, v) -> x.goes(1, v), 0, 1, 2, 0, -1, NO_STATUS);
    }

    private static void acts() {
        bounds("hours", (x, v) -> x.hours(v), 1, 4, 60, 63, -1, 1);
        bounds("wind", (x, v) -> x.wind(v), 0, 5, 9, 5, -1, 1);
        bounds("give", (x, v) -> x.give(v), 1, 50, 50, 99, -1, 1);
    }

    private static void actsOfPersons() {
        ofPersons("think(v, 0, 0, 1)", (x, v) -> x.think(v, 0, 0, 1), -1, 0);
        bounds("think(1, v, 0, 1)", (x, v) -> x.think(1, v, 0, 1), 0, 1, 3, 1, -1, 0);
        bounds("think(3, 0, v, 1)", (x, v) -> x.think(3, 0, v, 1), 0, 0, 2, 0, -1, 1);
        bounds("think(3, 0, 0, v)", (x, v) -> x.think(3, 0, 0, v), 1, 0, 9, 0, -1, 1);
        ofPersons("forget(v, 0)", (x, v) -> x.forget(v, 0), -1, 0);
        bounds("forget(0, v)", (x, v) -> x.forget(0, v), 0, 1, 3, 2, -1, 1);
        bounds("hem(v, 1)", (x, v) -> x.hem(v, 1), 0, 10, 3, 6, -1, 0);
        bounds("hem(0, v)", (x, v) -> x.hem(0, v), 1, 10, 9, 18, -1, 1);
    }

    private static void years() {
        bounds("years", (x, v) -> x.years(v, 1), 1, 4, 60, 63, -1, NO_STATUS);
        for (long seed : new long[] {Long.MIN_VALUE, Long.MAX_VALUE, 0, -1, 1L << 33}) {
            DUE.is("seed " + seed, busy().years(1, seed), 4);
            bounds("years of seed " + seed, (x, v) -> x.years(v, seed), 1, 4, 60, 63, -1, NO_STATUS);
        }
    }

    private static void apart() {
        bounds("behind(v, 0)", (x, v) -> x.behind(v, 0), 0, 1509000, 3, 5000, -1, NO_STATUS);
        // of AGE 63: 3,125 and 6,250, times 10
        bounds("behind(0, v)", (x, v) -> x.behind(0, v), 0, 1509000, 60, 102750, -1, NO_STATUS);
        ofPersons("floatsIn", (x, v) -> x.floatsIn(v), -1, NO_STATUS);
        bounds("load", (x, v) -> x.load(v), 0, 0, 15, 3329000, -1, NO_STATUS);
        bounds("held", (x, v) -> x.held(v), 0, 0, 3, 2, -1, NO_STATUS);
        bounds("eased", (x, v) -> x.eased(v), 0, 1, 3, 0, -1, NO_STATUS);
        ofPersons("odds(v, 2, 50)", (x, v) -> x.odds(v, 2, 50), -1, NO_STATUS);
        bounds("odds(0, v, 50)", (x, v) -> x.odds(0, v, 50), 0, 0, 6, 0, -1, NO_STATUS);
        bounds("odds(3, v, 50)", (x, v) -> x.odds(3, v, 50), 0, 1000000000, 6, 1000000000, -1, NO_STATUS);
        bounds("odds(3, 6, v)", (x, v) -> x.odds(3, 6, v), 0, 1000000000, 100, 1000000000, -1, NO_STATUS);
        // 999 times 1,509,000, 5,000 by 3,329,000
        bounds("shares(v, 999)", (x, v) -> x.shares(v, 999), 0, 452, 3, 1, -1, NO_STATUS);
        bounds("shares(0, v)", (x, v) -> x.shares(0, v), 0, 0, 999, 452, -1, NO_STATUS);
    }

    private static void riddles() {
        bounds("seen(v, 0, 0, true)", (x, v) -> x.seen(v, 0, 0, true), 0, 2, 3, 2, -1, NO_STATUS);
        bounds("seen(0, v, 0, true)", (x, v) -> x.seen(0, v, 0, true), 0, 2, 8, 2, -1, NO_STATUS);
        bounds("seen(0, 0, v, true)", (x, v) -> x.seen(0, 0, v, true), 0, 2, 9999, 2, -1, NO_STATUS);
        bounds("seen(0, 0, v, false)", (x, v) -> x.seen(0, 0, v, false), 0, 2, 9999, 2, -1, NO_STATUS);
        // 3 times 18 of 1, 3 times 9 of 2, 3 times 27 of 3; the MIND of 0 was full as told
        bounds("fits", (x, v) -> x.fits(v), -1, 162, 161, 3229, -1, NO_STATUS);
        ofPersons("ask", (x, v) -> x.ask(v), -1, NO_STATUS);
    }

    /** HEFTS 20 and 20; without the THOUGHTS of the other one 12 (who FLOATS) and 19; 23 with one more. */
    private static void games() {
        bounds("game(v, 1, 0, 0, 0)", (x, v) -> x.game(v, 1, 0, 0, 0), 0, 0, 3, -8, HIDDEN, NO_STATUS);
        bounds("game(0, v, 0, 0, 0)", (x, v) -> x.game(0, v, 0, 0, 0), 1, 0, 3, 10, HIDDEN, NO_STATUS);
        bounds("game(0, 1, v, 0, 0)", (x, v) -> x.game(0, 1, v, 0, 0), 0, 0, 2, 10, HIDDEN, NO_STATUS);
        bounds("game(0, 1, 0, v, 0)", (x, v) -> x.game(0, 1, 0, v, 0), 0, 0, 2, -1, HIDDEN, NO_STATUS);
        bounds("game(0, 1, 2, 2, v)", (x, v) -> x.game(0, 1, 2, 2, v), 0, 9, 1, -7, HIDDEN, NO_STATUS);
        bounds("rests(0, 1, v)", (x, v) -> x.rests(0, 1, v), -1, 1, 0, 22, -1, NO_STATUS);
        ofPersons("rests(v, 1, -1)", (x, v) -> x.rests(v, 1, -1), -1, NO_STATUS);
        ofPersons("rests(0, v, -1)", (x, v) -> x.rests(0, v, -1), -1, NO_STATUS);
        for (int person = 0; person < 4; person++) {
            int p = person;
            for (int i = 0; i < 2; i++) {
                int what = i;
                refused("game of one with himself", (x, v) -> x.game(p, p, 0, 0, what), 0, HIDDEN, NO_STATUS);
                refused("rests of one with himself", (x, v) -> x.rests(p, p, what - 1), 0, -1, NO_STATUS);
            }
        }
    }

    private static void counts() {
        bounds("most", (x, v) -> x.most(v), 0, 0, 10, 2, HIDDEN, NO_STATUS);
        bounds("count", (x, v) -> x.count(v), 0, 4, 8, 4, HIDDEN, NO_STATUS);
    }

    /** Within the bounds, yet refused. */
    private static void refusedOtherwise() {
        refused("a FAULT", (x, v) -> x.text(1), 0, -1, NO_STATUS);
        refused("an ISLAND of one", (x, v) -> {
            x.end(1);
            long answer = x.text(0);
            Due.feed(x, ";p;t");
            return answer;
        }, 0, -1, NO_STATUS);
        refused("a fifth LAW", (x, v) -> {
            x.end(0);
            Due.feed(x, "y:777");
            long answer = x.text(1);
            x.end(0);
            Due.feed(x, "p;p;t");
            return answer;
        }, 0, -1, NO_STATUS);
        refused("memory as it is", (x, v) -> x.memory(7) ? 1 : 0, 0, 0, NO_STATUS);
        refused("alike", (x, v) -> x.think(3, 3, 0, 1), 0, -1, 1);
        refused("a tune among the polite", (x, v) -> x.think(1, 0, 2, 1), 0, -1, 2);
        refused("the polite among tunes", (x, v) -> x.think(2, 0, 0, 1), 0, -1, 2);
        refused("a full MIND", (x, v) -> x.think(0, 1, 0, 1), 0, -1, 3);
        refused("none there", (x, v) -> x.forget(1, 1), 0, -1, 2);
        refused("none there", (x, v) -> x.forget(3, 3), 0, -1, 2);
        refused("WIND as it is", (x, v) -> x.wind(5), 0, -1, 2);
    }

    /** Two objects go the same way; what is refused of the first one only leaves no trace, UNDONE or BACK. */
    private static void refusedBetweenActs() {
        RememberedWeight x = busy();
        RememberedWeight y = busy();
        for (int step = 0; step < 8; step++) {
            refuse(x, step);
            act(x, step);
            act(y, step);
            alike("behind act " + step, x, y);
        }
        for (int left = x.count(8) - 1; left >= 0; left--) {
            refuse(x, left);
            DUE.is("undo", x.undo(), left);
            DUE.is("undo", y.undo(), left);
            alike("with " + left + " ACTS left", x, y);
        }
        DUE.is("back", x.back(), 3);
        DUE.is("back", y.back(), 3);
        DUE.is("alike again", Whole.of(x).equals(Whole.of(y)), true);
    }

    private static void alike(String when, RememberedWeight x, RememberedWeight y) {
        for (int what : new int[] {4, 7, 8}) {
            DUE.is("count(" + what + ") " + when, x.count(what), y.count(what));
        }
        DUE.is("WIND " + when, x.rule(0), y.rule(0));
        DUE.is("COINS " + when, x.rule(3), y.rule(3));
        DUE.is("THOUGHTS " + when, x.most(7), y.most(7));
        DUE.is("LOAD " + when, x.load(15), y.load(15));
    }

    private static void act(RememberedWeight x, int step) {
        switch (step) {
            case 0: x.hours(2); break;
            case 1: x.think(3, 1, 2, 9); break;
            case 2: x.forget(0, 2); break;
            case 3: x.hem(2, 9); break;
            case 4: x.wind(1); break;
            case 5: x.give(33); break;
            case 6: x.years(2, 77); break;
            default: x.think(0, 3, 1, 1);
        }
    }

    private static void refuse(RememberedWeight x, int step) {
        if (step % 2 == 0) {
            x.hours(0);
            x.think(3, 3, 1, 1);
            x.forget(3, 4);
            x.hem(0, 10);
            x.wind(10);
            x.give(51);
        } else {
            x.years(61, 1);
            x.years(0, 1);
            x.text(1);
            x.law(4);
            x.memory(10);
            x.seen(4, 0, 0, true);
        }
    }

    private static void withoutIsland() {
        RememberedWeight x = new RememberedWeight();
        int[] numbers = {0, 1, 7, 8, -1, MIN, MAX};
        int acts = 0;
        for (int v : numbers) {
            for (int w : numbers) {
                DUE.is("person", Due.person(x, v, w), Due.THROWS);
                DUE.is("think", x.think(v, w, 0, 1), -1);
                DUE.is("forget", x.forget(v, w), -1);
                DUE.is("hem", x.hem(v, w), -1);
                acts += 3;
            }
            DUE.is("hours", x.hours(v), -1);
            DUE.is("wind", x.wind(v), -1);
            DUE.is("give", x.give(v), -1);
            acts += 3;
        }
        for (int i = 0; i < 5; i++) {
            DUE.is("status", x.status(i), i == 0 ? acts : 0);
        }
        for (int v : numbers) {
            unanswered(new RememberedWeight(), v);
        }
    }

    private static void unanswered(RememberedWeight x, int v) {
        DUE.is("rule", x.rule(v), -1);
        DUE.is("thought", x.thought(v, 0, 0), -1);
        DUE.is("goes", x.goes(v, 0), -1);
        DUE.is("years", x.years(v, v), -1);
        DUE.is("undo", x.undo(), -1);
        DUE.is("log", x.log(v, 0), -1);
        DUE.is("behind", x.behind(v, 0), -1);
        DUE.is("floatsIn", x.floatsIn(v), -1);
        DUE.is("load", x.load(v), -1);
        DUE.is("together", x.together(), -1);
        DUE.is("goings", x.goings(), -1);
        DUE.is("held", x.held(v), -1);
        DUE.is("eased", x.eased(v), -1);
        DUE.is("seen", x.seen(v, 0, 0, true), -1);
        DUE.is("fits", x.fits(v), -1);
        DUE.is("ask", x.ask(v), -1);
        DUE.is("game", x.game(v, 1, 0, 0, 0), HIDDEN);
        DUE.is("game", x.game(0, v, 0, 0, 0), HIDDEN);
        DUE.is("rests", x.rests(v, 1, -1), -1);
        DUE.is("rests", x.rests(0, v, -1), -1);
        DUE.is("odds", x.odds(v, 0, 0), -1);
        DUE.is("shares", x.shares(v, 0), -1);
        DUE.is("most", x.most(v), HIDDEN);
        DUE.is("image", x.image(), -1);
        DUE.is("back", x.back(), -1);
        for (int i = 0; i <= 8; i++) {
            DUE.is("count(" + i + ")", x.count(i), i == 3 ? -1 : i == 5 ? 4 : 0);
        }
        for (int i = 0; i < 5; i++) {
            DUE.is("status(" + i + ")", x.status(i), 0);
        }
    }
}
