import java.util.ArrayList;
import java.util.List;

/** Promises 4, 5, 7, 8, 22 to 36: one object used again and again answers as a new one does that comes the same way. */
public final class AgainTest {
    private static final Due DUE = new Due("AgainTest");

    private interface Call {
        long on(RememberedWeight x);
    }

    private interface Act {
        void on(RememberedWeight x);
    }

    public static void main(String[] args) {
        textsAgain();
        lawsAgain();
        islandsAgain();
        fitsAgain();
        asItIsNow();
        DUE.finish();
    }

    /** What was read ahead leaves nothing, whether there was a FAULT or not. */
    private static void textsAgain() {
        String[] texts = {"s;p;p", "p;p;s", "p;p;p;p;p;p;p;p", "p;p", "p;p;t;t;t;t", "s;s", "p;p;t;t;t;t;t", "pm2;p;tk2", "p;p;tk0",
            "t;t;t;t;t;t;t;t;t;t;t;t;t", "p;p;ta1o0", "sw9g1", "p", "", "x", "sw1;p;p;p;ta2o0k1s3", "pb0", "p;p;s;t"};
        String[] laws = {"y:1", "y:s=1?k;y:a", "y:1;y:2;y:3", "y:((((((s=1))))))?1", "y:(((((((s=1", "y:!!!!!!s=1?1", "y:[[[[[[s]]]]]]",
            "y:s=1", "y:s=1&k=2|a>3?w;y:h/d", "y", "y:12345", "y:(s=1)", "y:[s", "", "y:s?1", "y:" + "1+".repeat(118) + "1"};
        RememberedWeight x = new RememberedWeight();
        for (int round = 0; round < 5; round++) {
            for (int i = 0; i < 18; i++) {
                String text = texts[i * (round + 1) * 5 % texts.length];
                String law = laws[i * (round + 1) * 3 % laws.length];
                x.end(0);
                Due.feed(x, text);
                DUE.is("fault(0) of " + text, x.fault(0), Due.fault(text, 0));
                DUE.is("fault(1) of " + text, x.fault(1), Due.fault(text, 1));
                DUE.is("fault(0) again of " + text, x.fault(0), Due.fault(text, 0));
                x.end(0);
                Due.feed(x, law);
                DUE.is("fault(1) of " + law, x.fault(1), Due.fault(law, 1));
                DUE.is("fault(1) again of " + law, x.fault(1), Due.fault(law, 1));
            }
            x = new RememberedWeight();
        }
    }

    /** LAWS of more and of fewer CLAUSES, with and without CONDITIONS, one behind the other. */
    private static void lawsAgain() {
        String[] laws = {"y:s=9?1;y:s=8?2;y:s=7?3;y:4", "y:5", "y:6;y:7", "y:s=3?8;y:9", "y:10;y:s=3?11", "y:s=4?12;y:13;y:14", "y:15+1*2",
            "y:!s=3?17;y:s=3&k=0?18", "y:s=4?19"};
        int[] due = {4, 5, 6, 8, 10, 13, 17, 18, 0};
        for (int first = 0; first < laws.length; first++) {
            RememberedWeight x = new RememberedWeight();
            Due.feed(x, "y:1" + "+1".repeat(118));
            DUE.is("a long LAW that is not kept", x.fault(1), -1);
            DUE.is("read again", x.fault(1), -1);
            x.end(0);
            for (int i = 0; i < 4; i++) {
                Due.feed(x, laws[(first + i * 2) % laws.length]);
                DUE.is("text(1)", x.text(1), i);
                // a LAW that is read and not kept
                Due.feed(x, "y:s=3?21;y:s=3?22;y:23;y:24;y:(s=3");
                DUE.is("fault(1)", x.fault(1), 34);
                x.end(0);
            }
            Due.feed(x, "pd1;p;t");
            x.text(0);
            for (int round = 0; round < 2; round++) {
                for (int i = 3; i >= 0; i--) {
                    x.law(i);
                    DUE.is("MASS by " + laws[(first + i * 2) % laws.length], x.thought(0, 0, 4), due[(first + i * 2) % laws.length]);
                }
                x.law(-1);
                DUE.is("MASS by none", x.thought(0, 0, 4), 300000);
            }
        }
    }

    /** An object on which much has been: eight PERSONS, 32 THOUGHTS, ACTS, an IMAGE, all that is SEEN. */
    private static RememberedWeight used(String law) {
        RememberedWeight x = new RememberedWeight();
        Due.feed(x, law);
        x.text(1);
        Due.feed(x, "sw9g1b1k99" + ";pb99d99".repeat(8));
        x.text(0);
        for (int i = 0; i < 32; i++) {
            x.think(i / 4, (i / 4 + 1 + i % 7) % 8, i % 3, 9);
        }
        x.hours(60);
        x.image();
        for (int i = 0; i < 10; i++) {
            x.seen(i % 8, 8, 9999, i % 2 == 0);
        }
        x.fits(-1);
        x.ask(7);
        x.goings();
        x.held(7);
        x.odds(7, 3, 50);
        x.game(6, 7, 1, 1, 0);
        x.years(5, 5);
        return x;
    }

    private static void islandsAgain() {
        String[] islands = {"p;p", "p;p;p", "sw1;pm2;pm1;tk2;ta1o0", "sg1b1;p;p;t;t;t;t", "p;p;p;p;p;p;p", "sw9;pb1;pb1d99"};
        for (String island : islands) {
            for (int holds = -1; holds <= 0; holds++) {
                RememberedWeight x = used("y:s*1000+a");
                RememberedWeight y = new RememberedWeight();
                Due.feed(y, "y:s*1000+a");
                y.text(1);
                x.law(holds);
                y.law(holds);
                Due.feed(x, island);
                Due.feed(y, island);
                DUE.is("text(0)", x.text(0), y.text(0));
                same("of " + island, x, y);
                x.hours(2);
                y.hours(2);
                DUE.is("all of " + island, Whole.of(x).equals(Whole.of(y)), true);
                DUE.is("undo", x.undo(), y.undo());
                DUE.is("undo", x.undo(), y.undo());
                DUE.is("undo", x.undo(), -1);
                DUE.is("back", x.back(), -1);
            }
        }
    }

    /** All questions, of everybody. */
    private static void same(String when, RememberedWeight x, RememberedWeight y) {
        for (int what = 0; what <= 10; what++) {
            DUE.is("most(" + what + ") " + when, x.most(what), y.most(what));
        }
        DUE.is("together " + when, x.together(), y.together());
        DUE.is("goings " + when, x.goings(), y.goings());
        DUE.is("fits " + when, x.fits(-1), y.fits(-1));
        int persons = y.count(0);
        DUE.is("load " + when, x.load((1 << persons) - 1), y.load((1 << persons) - 1));
        DUE.is("load of one more " + when, x.load(1 << persons), -1);
        for (int i = 0; i < persons; i++) {
            int other = (i + 1) % persons;
            DUE.is("behind " + when, x.behind(i, 2), y.behind(i, 2));
            DUE.is("floatsIn " + when, x.floatsIn(i), y.floatsIn(i));
            DUE.is("held " + when, x.held(i), y.held(i));
            DUE.is("eased " + when, x.eased(i), y.eased(i));
            DUE.is("ask " + when, x.ask(i), y.ask(i));
            DUE.is("game " + when, x.game(i, other, 1, 2, 0), y.game(i, other, 1, 2, 0));
            DUE.is("rests " + when, x.rests(i, other, -1), y.rests(i, other, -1));
            DUE.is("odds " + when, x.odds(i, 2, 33), y.odds(i, 2, 33));
            DUE.is("shares " + when, x.shares(i, 999), y.shares(i, 999));
        }
    }

    /** FITS by another ISLAND, another LAW, one SEEN more. */
    private static void fitsAgain() {
        RememberedWeight x = Due.island("p;p;p");
        DUE.is("three", x.fits(-1), 162);
        Due.feed(x, "p;p");
        x.text(0);
        DUE.is("two", x.fits(-1), 54);
        x.seen(1, 0, 10, true);
        DUE.is("of 1", x.fits(-1), 27);
        DUE.is("of 1", x.fits(0), 101);
        Due.enact(x, "y:k=0?1;y:5000");
        DUE.is("of 1, no polite ones", x.fits(-1), 18);
        DUE.is("ask", x.ask(1), 0);
        x.law(-1);
        DUE.is("of 1", x.fits(-1), 27);
        DUE.is("ask", x.ask(1), 2);
        Due.feed(x, "p;p");
        x.text(0);
        DUE.is("nothing SEEN", x.count(6), 0);
        DUE.is("two", x.fits(-1), 54);
        DUE.is("nothing SEEN, all of 0 alike", x.ask(1), 0);
    }

    /** What is asked as the first thing behind an ACT goes by how it is then. */
    private static void asItIsNow() {
        List<Act> acts = new ArrayList<>();
        acts.add(x -> { });
        acts.add(x -> x.think(1, 0, 0, 9));
        acts.add(x -> x.forget(1, 0));
        acts.add(x -> x.undo());
        acts.add(x -> x.law(0));
        acts.add(x -> x.wind(7));
        acts.add(x -> x.think(2, 0, 2, 4));
        acts.add(x -> x.law(-1));
        acts.add(x -> x.hem(0, 9));
        acts.add(x -> x.hours(2));
        acts.add(x -> x.image());
        acts.add(x -> x.years(3, 9));
        acts.add(x -> x.forget(0, 0));
        acts.add(x -> x.back());
        acts.add(x -> x.forget(2, 0));
        List<Call> calls = calls();
        for (int c = 0; c < calls.size(); c++) {
            RememberedWeight x = start();
            for (int n = 0; n < acts.size(); n++) {
                acts.get(n).on(x);
                RememberedWeight y = start();
                for (int i = 0; i <= n; i++) {
                    acts.get(i).on(y);
                    // all is weighed again
                    Due.person(y, 0, 3);
                    y.behind(0, 0);
                }
                DUE.is("call " + c + " behind act " + n, calls.get(c).on(x), calls.get(c).on(y));
            }
        }
    }

    private static RememberedWeight start() {
        RememberedWeight x = new RememberedWeight();
        Due.feed(x, "y:s*700+w*30+a");
        x.text(1);
        x.memory(9);
        Due.feed(x, "sw6g2b3k50;pb8d3;pb9d2;pb7d4m2;ta0o1s2;ta1o0s3;ta2o1k2s5");
        x.text(0);
        x.seen(0, 0, 9, false);
        return x;
    }

    private static List<Call> calls() {
        List<Call> calls = new ArrayList<>();
        for (int what = 3; what <= 5; what++) {
            int w = what;
            calls.add(x -> Due.person(x, 0, w));
        }
        calls.add(x -> x.thought(1, 0, 4));
        calls.add(x -> x.behind(0, 0));
        calls.add(x -> x.behind(0, 3));
        calls.add(x -> x.floatsIn(0));
        calls.add(x -> x.load(7));
        calls.add(x -> x.together());
        calls.add(x -> x.goings());
        calls.add(x -> x.held(0));
        calls.add(x -> x.eased(0));
        calls.add(x -> x.fits(-1));
        calls.add(x -> x.ask(0));
        calls.add(x -> x.game(0, 1, 1, 2, 0));
        calls.add(x -> x.rests(0, 1, 0));
        calls.add(x -> x.odds(0, 0, 0));
        calls.add(x -> x.odds(0, 3, 40));
        calls.add(x -> x.shares(0, 999));
        for (int what = 0; what <= 10; what++) {
            int w = what;
            calls.add(x -> x.most(w));
        }
        calls.add(x -> x.log(0, 0) * 1000 + x.log(0, 1) * 100 + x.log(0, 2));
        return calls;
    }
}
