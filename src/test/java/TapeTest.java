/** Promises 1, 2, 3, 5, 10, 11 and 39: what is told, what it makes, what is left of what was ahead of it. */
public final class TapeTest {
    private static final Due DUE = new Due("TapeTest");

    public static void main(String[] args) {
        newObject();
        feeding();
        ending();
        islands();
        usual();
        laws();
        anotherIsland();
        refusedIsland();
        memory();
        DUE.finish();
    }

    private static void newObject() {
        RememberedWeight x = new RememberedWeight();
        long[] counts = {-1000000, 0, 0, 0, -1, 0, 4, 0, 0, 0, -1000000};
        for (int i = 0; i < counts.length; i++) {
            DUE.is("count(" + (i - 1) + ")", x.count(i - 1), counts[i]);
        }
        for (int what = -1; what < 6; what++) {
            DUE.is("rule", x.rule(what), -1);
            DUE.is("most", x.most(what), -1000000);
            DUE.is("person", Due.person(x, 0, what), Due.THROWS);
        }
        DUE.is("law(-1)", x.law(-1), true);
        DUE.is("law(0)", x.law(0), false);
        DUE.is("text(0)", x.text(0), -1);
        DUE.is("text(1)", x.text(1), -1);
    }

    private static void feeding() {
        RememberedWeight x = new RememberedWeight();
        DUE.is("nothing", x.feed(0, 0, 0, 0, 0), 0);
        // p ; p with bytes of 0 between, of each number the highest first
        DUE.is("with bytes of 0", x.feed(0x70003b00, 0, 0x00000070, 0, 0), 3);
        DUE.is("fault(0)", x.fault(0), -1);
        DUE.is("text(0)", x.text(0), 2);
        DUE.is("bytes above 127", x.feed(-1, 0x80808080, Integer.MIN_VALUE, 0x00ff0000, 0xff), 11);
        DUE.is("fault(0)", x.fault(0), 0);
        DUE.is("end(0)", x.end(0), true);
        for (int i = 1; i <= 11; i++) {
            DUE.is("twenty", x.feed(-1, -1, -1, -1, -1), 20 * i);
        }
        DUE.is("eighteen", x.feed(-1, -1, -1, -1, 0x01010000), 238);
        DUE.is("too many", x.feed(0x01000000, 0x01, 0, 0, 0x0100), -1);
        for (int i = 0; i < 5; i++) {
            int[] n = new int[5];
            n[i] = 0x00010203;
            DUE.is("too many in one", x.feed(n[0], n[1], n[2], n[3], n[4]), -1);
        }
        DUE.is("count(2)", x.count(2), 238);
        DUE.is("just as many", x.feed(0x01000000, 0, 0, 0, 0x0100), 240);
        DUE.is("none more", x.feed(0, 0, 0, 0, 0), 240);
        DUE.is("one too many", x.feed(0, 0, 1, 0, 0), -1);
        DUE.is("count(2)", x.count(2), 240);
    }

    private static void ending() {
        RememberedWeight x = new RememberedWeight();
        DUE.is("end(0)", x.end(0), true);
        DUE.is("end(1)", x.end(1), false);
        Due.feed(x, "p;p;p;p");
        DUE.is("end(-1)", x.end(-1), false);
        DUE.is("end(8)", x.end(8), false);
        DUE.is("end(7)", x.end(7), true);
        DUE.is("count(2)", x.count(2), 7);
        DUE.is("end(3)", x.end(3), true);
        DUE.is("count(2)", x.count(2), 3);
        DUE.is("end(4)", x.end(4), false);
        DUE.is("end(max)", x.end(Integer.MAX_VALUE), false);
        DUE.is("end(min)", x.end(Integer.MIN_VALUE), false);
        DUE.is("text(0)", x.text(0), 2);
        DUE.is("end(3)", x.end(3), false);
    }

    private static void islands() {
        RememberedWeight x = new RememberedWeight();
        Due.feed(x, "sw1g2b3k4;pb5d6m1;pb7d8m2;ta0o1k1s9;ta1o0k2s8;ta0s7");
        DUE.is("text(0)", x.text(0), 2);
        DUE.is("count(2)", x.count(2), 0);
        for (int what = 0; what < 4; what++) {
            DUE.is("rule", x.rule(what), what + 1);
        }
        for (int person = 0; person < 2; person++) {
            DUE.is("BODY", Due.person(x, person, 0), 5 + 2 * person);
            DUE.is("DEEP", Due.person(x, person, 1), 6 + 2 * person);
            DUE.is("MIND", Due.person(x, person, 2), 1 + person);
        }
        int[][] told = {{0, 0, 1, 1, 9}, {1, 0, 0, 2, 8}, {0, 1, 1, 0, 7}};
        for (int[] t : told) {
            for (int what = 0; what < 3; what++) {
                DUE.is("THOUGHT", x.thought(t[0], t[1], what), t[2 + what]);
            }
            DUE.is("AGE", x.thought(t[0], t[1], 3), 0);
        }
        DUE.is("THOUGHTS", x.most(7), 3);
        DUE.is("count(4)", x.count(4), 0);
        DUE.is("text(0)", x.text(0), -1);
        DUE.is("count(0)", x.count(0), 2);
        RememberedWeight eight = Due.island("p;p;p;p;p;p;p;pb1");
        DUE.is("count(0)", eight.count(0), 8);
        DUE.is("person(7, 0)", Due.person(eight, 7, 0), 1);
        DUE.is("person(8, 0)", Due.person(eight, 8, 0), Due.THROWS);
    }

    private static void usual() {
        RememberedWeight x = Due.island("p;p;t");
        int[] rules = {3, 40, 60, 20};
        int[] person = {9, 10, 0};
        int[] thought = {1, 0, 3, 0, 3000000};
        for (int i = 0; i < 4; i++) {
            DUE.is("rule", x.rule(i), rules[i]);
        }
        for (int i = 0; i < 3; i++) {
            DUE.is("person", Due.person(x, 1, i), person[i]);
        }
        for (int i = 0; i < 5; i++) {
            DUE.is("thought", x.thought(0, 0, i), thought[i]);
        }
    }

    private static void laws() {
        RememberedWeight x = new RememberedWeight();
        for (int i = 0; i < 4; i++) {
            Due.feed(x, "y:" + (i + 1));
            DUE.is("fault(1)", x.fault(1), -1);
            DUE.is("text(1)", x.text(1), i);
            DUE.is("count(1)", x.count(1), i + 1);
            DUE.is("count(2)", x.count(2), 0);
            DUE.is("count(3)", x.count(3), -1);
            DUE.is("law of a later one", x.law(i + 1), false);
        }
        Due.feed(x, "y:9");
        DUE.is("a fifth LAW", x.text(1), -1);
        DUE.is("count(1)", x.count(1), 4);
        DUE.is("count(2)", x.count(2), 3);
        DUE.is("text(2)", x.text(2), -1);
        DUE.is("text(-1)", x.text(-1), -1);
        DUE.is("end(0)", x.end(0), true);
        Due.feed(x, "pd1;pd1;t");
        DUE.is("text(0)", x.text(0), 2);
        DUE.is("by no LAW", x.thought(0, 0, 4), 300000);
        for (int i = 3; i >= 0; i--) {
            DUE.is("law", x.law(i), true);
            DUE.is("law again", x.law(i), true);
            DUE.is("count(3)", x.count(3), i);
            DUE.is("by this LAW", x.thought(0, 0, 4), i + 1);
        }
        DUE.is("law(4)", x.law(4), false);
        DUE.is("law(-2)", x.law(-2), false);
        DUE.is("law(max)", x.law(Integer.MAX_VALUE), false);
        DUE.is("count(3)", x.count(3), 0);
        DUE.is("law(-1)", x.law(-1), true);
        DUE.is("count(3)", x.count(3), -1);
        DUE.is("by no LAW again", x.thought(0, 0, 4), 300000);
        RememberedWeight faulty = new RememberedWeight();
        Due.feed(faulty, "y:s?");
        DUE.is("text(1) of a FAULT", faulty.text(1), -1);
        DUE.is("count(2)", faulty.count(2), 4);
        DUE.is("count(1)", faulty.count(1), 0);
    }

    /** All of another one is gone, but LAWS, which holds, MEMORY, STATUS. */
    private static void anotherIsland() {
        RememberedWeight x = Due.island("pm0;p;p;t", "y:7");
        x.memory(8);
        x.hours(3);
        x.hem(0, 1);
        x.hem(9, 1);
        x.wind(10);
        x.image();
        x.seen(0, 0, 0, true);
        x.think(2, 1, 0, 9);
        Due.feed(x, "sw5;p;p");
        DUE.is("text(0)", x.text(0), 2);
        int[] counts = {2, 1, 0, 0, 0, 8, 0, 0, 0};
        for (int i = 0; i < counts.length; i++) {
            DUE.is("count(" + i + ")", x.count(i), counts[i]);
        }
        DUE.is("status(0)", x.status(0), 1);
        DUE.is("status(1)", x.status(1), 1);
        DUE.is("back()", x.back(), -1);
        DUE.is("undo()", x.undo(), -1);
        DUE.is("log(0, 0)", x.log(0, 0), -1);
        DUE.is("THOUGHTS", x.most(7), 0);
        DUE.is("BODY", Due.person(x, 0, 0), 9);
        DUE.is("WIND", x.rule(0), 5);
        DUE.is("COINS", x.rule(3), 20);
        DUE.is("person(2, 0)", Due.person(x, 2, 0), Due.THROWS);
        DUE.is("fits(-1)", x.fits(-1), 2 * 27);
    }

    private static void refusedIsland() {
        RememberedWeight x = Due.island("sw5;pb8;p;p;t");
        x.hours(2);
        x.image();
        Due.feed(x, "p;pb1;pb0");
        DUE.is("text(0)", x.text(0), -1);
        DUE.is("count(2)", x.count(2), 9);
        DUE.is("count(0)", x.count(0), 3);
        DUE.is("count(4)", x.count(4), 2);
        DUE.is("count(7)", x.count(7), 2);
        DUE.is("count(8)", x.count(8), 2);
        DUE.is("BODY", Due.person(x, 0, 0), 8);
        DUE.is("BODY", Due.person(x, 1, 0), 9);
        DUE.is("THOUGHTS", x.most(7), 1);
        DUE.is("fault(0) changes nothing", x.fault(0), 8);
        DUE.is("fits(-1)", x.fits(-1), 3 * 54);
        DUE.is("back()", x.back(), 2);
    }

    private static void memory() {
        RememberedWeight x = new RememberedWeight();
        DUE.is("it is so", x.memory(4), false);
        for (int v = 0; v <= 9; v++) {
            DUE.is("memory", x.memory(v), v != 4 || x.count(5) == 4);
            DUE.is("count(5)", x.count(5), v);
        }
        DUE.is("memory(10)", x.memory(10), false);
        DUE.is("memory(-1)", x.memory(-1), false);
        DUE.is("memory(9)", x.memory(9), false);
        DUE.is("count(5)", x.count(5), 9);
        DUE.is("status(1)", x.status(1), 0);
        DUE.is("status(2)", x.status(2), 0);
    }
}
