import java.util.Random;

/** Promise 4: where a TEXT cannot go on. */
public final class FaultTest {
    private static final Due DUE = new Due("FaultTest");

    public static void main(String[] args) {
        islands();
        islandNumbers();
        islandsAtTheirEnd();
        laws();
        nesting();
        sorts();
        drawn();
        DUE.finish();
    }

    private static void island(String text, int fault) {
        DUE.is("fault(0) of \"" + text + "\"", Due.fault(text, 0), fault);
    }

    private static void law(String text, int fault) {
        DUE.is("fault(1) of \"" + text + "\"", Due.fault(text, 1), fault);
    }

    private static void islands() {
        island("", 0);
        island("  ", 2);
        island("p", 1);
        island("p;", 2);
        island("p;p", -1);
        island(" p ; p ", -1);
        island("p;p;", 4);
        island("p;p; ", 5);
        island(";p;p", 0);
        island("p;;p", 2);
        island("x;p", 0);
        island("P;p", 0);
        island("p;p x", 4);
        island("p;p\t", 3);
        island("p;p\u00ff", 3);
        island("p p", 2);
        island("s;p;p", -1);
        island("p;s;p", -1);
        island("p;p;s", -1);
        island("s;s;p;p", 2);
        island("p;p;s;s", 6);
        island("p;p;p;p;p;p;p;p", -1);
        island("p;p;p;p;p;p;p;p;p", 16);
        island("p;p;p;t;t;t;t;ta1o0;ta1o0;ta1o0;ta1o0;ta2o0;ta2o0;ta2o0;ta2o0", -1);
        island("t;t;t;t;t;t;t;t;t;t;t;t;t", 24);
        island("t;t;t;t;t;t;t;t;t;t;t;t; t", 25);
    }

    private static void islandNumbers() {
        island("pb", 2);
        island("pb;p", 2);
        island("pb b1;p", 3);
        island("pb1b2;p", 3);
        island("pb1w1;p", 3);
        island("pw1;p", 1);
        island("sd1;p;p", 1);
        island("tb1;p;p", 1);
        island("p b 1 d 2 m 0 ; p", -1);
        island("pb1 2;p", 4);
        island("pb01;p", -1);
        island("pb99;p", -1);
        island("pb0;p", 2);
        island("pb00;p", 3);
        island("pb000;p", 4);
        island("pb001;p", 4);
        island("pb100;p", 4);
        island("pb0", 2);
        island("pb0 5", 2);
        island("pd99;pd1", -1);
        island("pd0;p", 2);
        island("pd100;p", 4);
        island("pm2;p", -1);
        island("pm3;p", 2);
        island("pm03;p", 3);
        island("pm30;p", 3);
        island("pm300;p", 4);
        island("sw0g1b1k0;p;p", -1);
        island("sw9g99b99k99;p;p", -1);
        island("sk99b99g99w9;p;p", -1);
        island("sw10;p;p", 3);
        island("sw100;p;p", 4);
        island("sg0;p;p", 2);
        island("sb0;p;p", 2);
        island("sg1b1k1w1g1;p;p", 9);
        island("t a0 o1 k2 s9;p;p", -1);
        island("ts1k0o0a1;p;p", -1);
        island("ta8", 2);
        island("ta10", 3);
        island("to8", 2);
        island("tk3", 2);
        island("ts0", 2);
        island("ts10", 3);
        island("ta1a1", 3);
        // the first fault counts
        island("pb0;x", 2);
        island("x;pb0", 0);
    }

    private static void islandsAtTheirEnd() {
        island("p;p;t", -1);
        island("t;p;p", -1);
        island("p;p;ta1", 7);
        island("p;p;ta1 ", 8);
        island("p;p;to0", 7);
        island("p;p;ta1o0", -1);
        island("p;p;ta2o0", 9);
        island("p;p;to2", 7);
        island("p;p;to2;p", -1);
        island("ta7;p;p;p;p;p;p;p", 17);
        island("ta7;p;p;p;p;p;p;p;p", -1);
        island("pm1;p;t", -1);
        island("pm1;p;tk1", -1);
        island("pm1;p;tk2", 9);
        island("pm2;p;tk2", -1);
        island("pm2;p;tk1", 9);
        island("pm2;p;t", 7);
        island("p;pm2;tk0", -1);
        island("p;p;t;t;t;t", -1);
        island("p;p;t;t;t;t;t", 13);
        island("p;p;t;t;t;t;ta1o0", -1);
        island("t;t;t;t;t;p;p ", 14);
    }

    private static void laws() {
        law("", 0);
        law(" ", 1);
        law("x", 0);
        law("y", 1);
        law("ys", 1);
        law("y:", 2);
        law("y:s", -1);
        law(" y : s ; y : k ", -1);
        law("y:s;", 4);
        law("y:s;;", 4);
        law("y:s;x", 4);
        law(";y:s", 0);
        law("y:s y:k", 4);
        for (String letter : new String[] {"s", "k", "a", "d", "w", "h"}) {
            law("y:" + letter, -1);
        }
        law("y:y", 2);
        law("y:b", 2);
        law("y:0", -1);
        law("y:1234", -1);
        law("y:0000", -1);
        law("y:00001", 6);
        law("y:12345", 6);
        law("y:123456", 6);
        law("y:1 2", 4);
        law("y:-1", 2);
        law("y:s+", 4);
        law("y:s+-1", 4);
        law("y:s*/1", 4);
        law("y:s-k*a/d+1", -1);
        law("y:s k", 4);
        law("y:s:k", 3);
        law("y:[s", 4);
        law("y:[s]", -1);
        law("y:[]", 3);
        law("y:[s)", 4);
        law("y:[s=1]", 4);
        law("y:[s]]", 5);
        law("y:s]", 3);
        conditions();
    }

    private static void conditions() {
        law("y:s=1", 5);
        law("y:s=1;", 5);
        law("y:s=1?", 6);
        law("y:s=1?k", -1);
        law("y:s<1?k", -1);
        law("y:s>1?k", -1);
        law("y:s?k", 3);
        law("y:s=?", 4);
        law("y:s==1", 4);
        law("y:s=1=2", 5);
        law("y:s=1?k=2", 7);
        law("y:s=1?k?1", 7);
        law("y:s=1?!k", 6);
        law("y:s=1?(k)", 6);
        law("y:s=1?[k]", -1);
        law("y:s=!k=1?1", 4);
        law("y:s=(k)?1", 4);
        law("y:s+(k)", 4);
        law("y:s&k=1?1", 3);
        law("y:s=1&k", 7);
        law("y:s=1&k|s=1?1", 7);
        law("y:s=1&?1", 6);
        law("y:s=1|k=2&a=3?1", -1);
        law("y:s=1||k=2?1", 6);
        law("y:(s)", 4);
        law("y:()", 3);
        law("y:(s=1)", 7);
        law("y:(s=1);", 7);
        law("y:(s=1?1", 6);
        law("y:(s=1]?1", 6);
        law("y:(s=1))?1", 7);
        law("y:(s=1)=2?1", 7);
        law("y:(s=1)+1", 7);
        law("y:(s=1)?1", -1);
        law("y:(s=1)&(k=1|a=2)?1", -1);
        law("y:!", 3);
        law("y:!s", 4);
        law("y:!s?1", 4);
        law("y:!s=1?1", -1);
        law("y:!(s=1)?1", -1);
        law("y:!!s=1?1", -1);
        law("y:!s=1&!k=1|!(a=1)?1", -1);
        law("y:[s+1]*2=[k]?[a]", -1);
    }

    private static void nesting() {
        law("y:[[[[[[s]]]]]]", -1);
        law("y:[[[[[[[s]]]]]]]", 8);
        law("y:((((((s=1))))))?1", -1);
        law("y:(((((((s=1)))))))?1", 8);
        law("y:!!!!!!s=1?1", -1);
        law("y:!!!!!!!s=1?1", 8);
        law("y: ! ! ! ! ! ! ! s=1?1", 15);
        law("y:!(!(![s]=1))?1", -1);
        law("y:!(!(!([s]=1)))?1", 8);
        law("y:!!!!!!s=[1]?1", 10);
        law("y:!!!!!s=[1]+[2]?[3]", -1);
        // what is closed is not around any more
        law("y:!!!!!!s=1&!!!!!!s=1|!!!!!!s=1?1", -1);
        law("y:((((((s=1))))))&((((((s=1))))))?[[[[[[s]]]]]]", -1);
        law("y:[[[[[[s]]]]]]+[[[[[[s]]]]]]*[[[[[[[s", 36);
        law("y:(s=1&!(k=1)&!(k=1)&!(k=1)&!(k=1))?1", -1);
    }

    private static void sorts() {
        DUE.is("fault(2)", Due.fault("p;p", 2), -2);
        DUE.is("fault(-1)", Due.fault("p;p", -1), -2);
        RememberedWeight x = new RememberedWeight();
        Due.feed(x, "p;p");
        DUE.is("fault(1)", x.fault(1), 0);
        DUE.is("fault(0)", x.fault(0), -1);
        DUE.is("count(2)", x.count(2), 3);
        DUE.is("end(2)", x.end(2), true);
        // the third byte lies there no more
        DUE.is("fault(0)", x.fault(0), 2);
        DUE.is("count(0)", x.count(0), 0);
    }

    /** Rows of drawn signs, most of which go on for a while, beside PlainIsland. */
    private static void drawn() {
        Random random = new Random(4);
        Texts texts = new Texts(random);
        String lawSigns = "!([])&|=<>+-*/;?sk1yy::";
        String islandSigns = "sptp;;;wgbkbdmaoks0129 ";
        for (int i = 0; i < 60000; i++) {
            StringBuilder text = new StringBuilder(i % 3 == 0 ? "y:" : i % 3 == 1 ? "y:!(" : "y:s=1?");
            for (int j = random.nextInt(12); j > 0; j--) {
                text.append(lawSigns.charAt(random.nextInt(lawSigns.length())));
            }
            same(text.toString(), 1);
            same(texts.spoilt(texts.law(), lawSigns + "skadwh0123456789 "), 1);
            same(texts.spoilt(texts.island(), islandSigns), 0);
        }
    }

    private static void same(String text, int sort) {
        if (text.length() > 240) {
            return;
        }
        PlainIsland plain = new PlainIsland();
        byte[] bytes = text.getBytes(java.nio.charset.StandardCharsets.ISO_8859_1);
        for (int i = 0; i < bytes.length; i += 4) {
            plain.feed(Due.four(bytes, i));
        }
        DUE.is("fault(" + sort + ") of \"" + text + "\"", Due.fault(text, sort), plain.fault(sort));
    }
}
