import java.util.Random;

/** Many runs of drawn calls, each answer beside that of PlainIsland. */
public final class OracleTest {
    private static final int RUNS = 1500;
    private static final int CALLS = 300;
    private static final Due DUE = new Due("OracleTest");

    private final Random random;
    private final Texts texts;
    private final RememberedWeight x = new RememberedWeight();
    private final PlainIsland plain = new PlainIsland();
    private final int run;

    private OracleTest(int run) {
        this.run = run;
        random = new Random(run);
        texts = new Texts(random);
    }

    public static void main(String[] args) {
        for (int run = 0; run < RUNS; run++) {
            new OracleTest(run).play();
        }
        for (int run = 0; run < 300; run++) {
            new OracleTest(run).cross();
        }
        DUE.finish();
    }

    private int from(int low, int high) {
        return low + random.nextInt(high - low + 1);
    }

    private boolean in(int n) {
        return random.nextInt(n) == 0;
    }

    /** Mostly within the bounds, now and then beside them, seldom far off. */
    private int near(int low, int high) {
        if (in(60)) {
            return in(2) ? random.nextInt() : in(2) ? Integer.MAX_VALUE : Integer.MIN_VALUE;
        }
        return in(12) ? (in(2) ? low - 1 : high + 1) : from(low, high);
    }

    private int somebody() {
        int persons = plain.count(0);
        return persons == 0 ? near(0, 1) : near(0, persons - 1);
    }

    private void same(String call, long got, long want) {
        DUE.is("run " + run + " " + call, got, want);
    }

    private void feed(String text) {
        byte[] bytes = text.getBytes(java.nio.charset.StandardCharsets.ISO_8859_1);
        for (int i = 0; i < bytes.length; i += 20) {
            int[] n = new int[5];
            for (int j = 0; j < 5; j++) {
                n[j] = Due.four(bytes, i + 4 * j);
            }
            same("feed", x.feed(n[0], n[1], n[2], n[3], n[4]), plain.feed(n));
        }
    }

    private void put(int sort, String text) {
        same("end", x.end(0) ? 1 : 0, plain.end(0) ? 1 : 0);
        feed(text);
        same("fault " + sort + " of " + text, x.fault(sort), plain.fault(sort));
        same("text " + sort + " of " + text, x.text(sort), plain.text(sort));
    }

    private void play() {
        for (int i = 0; i < 10; i++) {
            drawnCall();
        }
        for (int laws = from(0, 2); laws > 0; laws--) {
            put(1, texts.law());
        }
        put(0, texts.island());
        if (!in(3)) {
            int law = from(-1, plain.count(1) - 1);
            same("law " + law, x.law(law) ? 1 : 0, plain.law(law) ? 1 : 0);
        }
        for (int i = 0; i < CALLS; i++) {
            drawnCall();
        }
        all();
    }

    /** Persons of 100,000 .. 900,000 at a bridge that bears few of them. */
    private void cross() {
        int persons = from(2, 8);
        StringBuilder text = new StringBuilder("sb").append(from(1, 2));
        for (int i = 0; i < persons; i++) {
            text.append(";pb1d1");
        }
        for (int i = 0; i < persons; i++) {
            text.append(";ta").append((i + 1) % persons).append("o").append(i).append("s").append(from(1, 9));
        }
        put(1, "y:1000*s*100-1000");
        put(0, text.toString());
        same("law 0", x.law(0) ? 1 : 0, plain.law(0) ? 1 : 0);
        same("goings", x.goings(), plain.goings());
        same("together", x.together(), plain.together());
        for (int some = -1; some <= 1 << persons; some++) {
            same("load " + some, x.load(some), plain.load(some));
        }
        x.hem(0, 1);
        plain.hem(0, 1);
        same("goings", x.goings(), plain.goings());
        same("together", x.together(), plain.together());
    }

    /** All that can be asked cheaply. */
    private void all() {
        for (int i = -1; i < 12; i++) {
            same("count " + i, x.count(i), plain.count(i));
            same("rule " + i, x.rule(i), plain.rule(i));
            same("status " + i, x.status(i), plain.status(i));
            same("most " + i, x.most(i), plain.most(i));
        }
        for (int i = -1; i <= plain.count(0); i++) {
            for (int what = -1; what <= 6; what++) {
                same("person " + i + " " + what, Due.person(x, i, what), plain.person(i, what));
                same("goes " + i + " " + what, x.goes(i, what), plain.goes(i, what));
                for (int place = -1; place <= 4; place++) {
                    same("thought " + i + " " + place + " " + what, x.thought(i, place, what), plain.thought(i, place, what));
                }
            }
        }
        for (int i = -1; i < 62; i++) {
            for (int what = -1; what < 4; what++) {
                same("log " + i + " " + what, x.log(i, what), plain.log(i, what));
            }
        }
    }

    private void drawnCall() {
        int which = random.nextInt(100);
        if (which < 40) {
            drawnAct();
        } else if (which < 60) {
            drawnLook();
        } else {
            drawnQuestion();
        }
    }

    private void drawnAct() {
        int a = somebody();
        int b = somebody();
        int c;
        int d;
        switch (random.nextInt(16)) {
            case 0:
                c = in(3) ? near(1, 60) : near(1, 3);
                same("hours " + c, x.hours(c), plain.hours(c));
                break;
            case 1: case 2: case 3:
                c = near(0, 2);
                d = near(1, 9);
                same("think " + a + " " + b + " " + c + " " + d, x.think(a, b, c, d), plain.think(a, b, c, d));
                break;
            case 4: case 5:
                c = near(0, 3);
                same("forget " + a + " " + c, x.forget(a, c), plain.forget(a, c));
                break;
            case 6:
                c = near(1, 9);
                same("hem " + a + " " + c, x.hem(a, c), plain.hem(a, c));
                break;
            case 7: case 8:
                c = near(0, 9);
                same("wind " + c, x.wind(c), plain.wind(c));
                break;
            case 9:
                c = near(1, 50);
                same("give " + c, x.give(c), plain.give(c));
                break;
            case 10:
                c = near(1, 10);
                long seed = random.nextLong();
                same("years " + c, x.years(c, seed), plain.years(c, seed));
                break;
            case 11: case 12:
                same("undo", x.undo(), plain.undo());
                break;
            case 13:
                same("image", x.image(), plain.image());
                break;
            case 14:
                if (in(3)) {
                    same("back", x.back(), plain.back());
                }
                break;
            default:
                drawnSetting();
        }
    }

    private void drawnSetting() {
        int c;
        switch (random.nextInt(12)) {
            case 0: case 1: case 2:
                c = near(-1, 3);
                same("law " + c, x.law(c) ? 1 : 0, plain.law(c) ? 1 : 0);
                break;
            case 3: case 4:
                c = near(0, 9);
                same("memory " + c, x.memory(c) ? 1 : 0, plain.memory(c) ? 1 : 0);
                break;
            case 5:
                put(0, texts.island());
                break;
            case 6:
                put(1, texts.law());
                break;
            case 7:
                put(0, texts.spoilt(texts.island(), "spt;wgbkmdao0123456789 x\t\u00ff"));
                break;
            case 8:
                put(1, texts.spoilt(texts.law(), "y:?!([])&|=<>+-*/;skadwh0123456789 x\u00ff"));
                break;
            case 9:
                int[] n = new int[5];
                for (int i = 0; i < 5; i++) {
                    n[i] = in(2) ? random.nextInt() : in(2) ? 0 : random.nextInt() & 0xff00ff;
                }
                same("feed", x.feed(n[0], n[1], n[2], n[3], n[4]), plain.feed(n));
                break;
            case 10:
                c = near(0, plain.count(2));
                same("end " + c, x.end(c) ? 1 : 0, plain.end(c) ? 1 : 0);
                break;
            default:
                c = near(0, 1);
                same("text " + c, x.text(c), plain.text(c));
        }
    }

    private void drawnLook() {
        int a = somebody();
        int b;
        int c;
        switch (random.nextInt(9)) {
            case 0:
                b = near(0, 5);
                same("person " + a + " " + b, Due.person(x, a, b), plain.person(a, b));
                break;
            case 1:
                b = near(0, 3);
                c = near(0, 4);
                same("thought " + a + " " + b + " " + c, x.thought(a, b, c), plain.thought(a, b, c));
                break;
            case 2:
                b = near(0, 2);
                same("goes " + a + " " + b, x.goes(a, b), plain.goes(a, b));
                break;
            case 3:
                b = near(0, 10);
                same("most " + b, x.most(b), plain.most(b));
                break;
            case 4:
                b = near(0, 3);
                same("rule " + b, x.rule(b), plain.rule(b));
                break;
            case 5:
                b = near(0, 8);
                same("count " + b, x.count(b), plain.count(b));
                break;
            case 6:
                b = near(0, Math.max(0, plain.count(7) - 1));
                c = near(0, 2);
                same("log " + b + " " + c, x.log(b, c), plain.log(b, c));
                break;
            case 7:
                b = near(0, 4);
                same("status " + b, x.status(b), plain.status(b));
                break;
            default:
                b = near(0, 1);
                same("fault " + b, x.fault(b), plain.fault(b));
        }
    }

    private void drawnQuestion() {
        int a = somebody();
        int b = somebody();
        int c;
        switch (random.nextInt(14)) {
            case 0:
                c = in(3) ? near(0, 60) : near(0, 5);
                same("behind " + a + " " + c, x.behind(a, c), plain.behind(a, c));
                break;
            case 1:
                same("floatsIn " + a, x.floatsIn(a), plain.floatsIn(a));
                break;
            case 2:
                c = near(0, (1 << plain.count(0)) - 1);
                same("load " + c, x.load(c), plain.load(c));
                break;
            case 3:
                same("together", x.together(), plain.together());
                break;
            case 4:
                same("goings", x.goings(), plain.goings());
                break;
            case 5:
                same("held " + a, x.held(a), plain.held(a));
                break;
            case 6:
                same("eased " + a, x.eased(a), plain.eased(a));
                break;
            case 7:
                drawnRiddle(a);
                break;
            case 8: case 9:
                int move = near(0, 2);
                int other = near(0, 2);
                c = near(0, 1);
                same("game " + a + " " + b + " " + move + " " + other + " " + c, x.game(a, b, move, other, c),
                        plain.game(a, b, move, other, c));
                break;
            case 10:
                c = in(2) ? near(-1, 5) : -1;
                same("rests " + a + " " + b + " " + c, x.rests(a, b, c), plain.rests(a, b, c));
                break;
            case 11:
                c = in(4) ? near(0, 6) : near(0, 3);
                int chance = near(0, 100);
                same("odds " + a + " " + c + " " + chance, x.odds(a, c, chance), plain.odds(a, c, chance));
                break;
            default:
                c = near(0, 999);
                same("shares " + a + " " + c, x.shares(a, c), plain.shares(a, c));
        }
    }

    /** What was seen is near to what it may have been, so that some fits. */
    private void drawnRiddle(int a) {
        if (in(3)) {
            int n = near(0, 8);
            long weight = plain.behind(a, 0) / 1000L;
            int v = in(4) ? near(0, 9999) : (int) Math.max(0, Math.min(9999, weight + from(-50, 50)));
            boolean more = random.nextBoolean();
            same("seen " + a + " " + n + " " + v + " " + more, x.seen(a, n, v, more), plain.seen(a, n, v, more));
        } else if (in(4)) {
            int count = plain.fits(-1);
            same("fits", x.fits(-1), count);
            for (int k = 0; k < 3; k++) {
                int i = near(0, Math.max(0, count - 1));
                same("fits " + i, x.fits(i), plain.fits(i));
            }
        } else if (in(2)) {
            same("ask " + a, x.ask(a), plain.ask(a));
        }
    }
}
