/** Promises 2 to 5: the bounds of TEXTS: which byte may follow which, how many there may be, which numbers. */
public final class TextBoundsTest {
    private static final Due DUE = new Due("TextBoundsTest");
    private static final String EIGHT = "p;p;p;p;p;p;p;p";
    private static final String DIGITS = "0123456789";
    /** What may begin a SUM: ATOMS that are whole, and what is not yet. */
    private static final String ATOMS = "skadwh" + DIGITS;

    public static void main(String[] args) {
        tape();
        tapeOfTexts();
        rules();
        persons();
        thoughts();
        items();
        itemNumbers();
        itemNumbersOfThoughts();
        itemsTwice();
        blanks();
        told();
        fullMinds();
        firstFault();
        nextOfIslands();
        nextOfLaws();
        nextOfConditions();
        lawNumbers();
        nesting();
        nestingInSums();
        manyClauses();
        fourLaws();
        DUE.finish();
    }

    private static void island(String text, int fault) {
        DUE.is("fault(0) of \"" + text + "\"", Due.fault(text, 0), fault);
    }

    private static void law(String text, int fault) {
        DUE.is("fault(1) of \"" + text + "\"", Due.fault(text, 1), fault);
    }

    private static String times(int n, String text) {
        return text.repeat(n);
    }

    /** 240 bytes and no more; bytes of 0 are none. */
    private static void tape() {
        for (int last = 0; last <= 20; last++) {
            RememberedWeight x = new RememberedWeight();
            Due.feed(x, times(240 - last, "a"));
            DUE.is("240 with the last " + last, Due.feed(x, times(last, "b")), 240);
            DUE.is("no more", Due.feed(x, "c"), -1);
            RememberedWeight y = new RememberedWeight();
            Due.feed(y, times(240 - last, "a"));
            if (last < 20) {
                DUE.is("241 with the last " + (last + 1), Due.feed(y, times(last + 1, "b")), -1);
            }
            DUE.is("count(2)", y.count(2), 240 - last);
        }
        RememberedWeight x = new RememberedWeight();
        for (int i = 0; i < 4; i++) {
            for (int n = 0; n < 5; n++) {
                int[] numbers = new int[5];
                numbers[n] = 255 << 8 * i;
                DUE.is("one byte of 20", x.feed(numbers[0], numbers[1], numbers[2], numbers[3], numbers[4]), 5 * i + n + 1);
            }
        }
        DUE.is("none of 20", x.feed(0, 0, 0, 0, 0), 20);
        DUE.is("lowest", x.feed(Integer.MIN_VALUE, 0, 0, 0, 0), 21);
        DUE.is("highest", x.feed(Integer.MAX_VALUE, Integer.MAX_VALUE, 0, 0, 0), 29);
        DUE.is("end of more", x.end(30), false);
        DUE.is("end of all", x.end(29), true);
        DUE.is("end of one less", x.end(28), true);
        DUE.is("end of what was there", x.end(29), false);
        DUE.is("empty", x.end(0), true);
        DUE.is("end of nothing", x.end(0), true);
        DUE.is("no more than nothing", x.end(1), false);
    }

    /** Texts of 240 bytes, which lie in their right order; the last byte counts. */
    private static void tapeOfTexts() {
        island(times(237, " ") + "p;p", -1);
        island("p;p" + times(237, " "), -1);
        island("p;p" + times(236, " ") + "x", 239);
        island("p;p" + times(236, " ") + ";", 240);
        island(times(240, " "), 240);
        law("y:1" + times(237, " "), -1);
        law("y:1" + times(236, " ") + ";", 240);
        law("y:1" + times(236, " ") + "1", 239);
        law("y:" + times(119, "1+"), 240);
        law("y:1" + times(118, "+1") + " ", -1);
        DUE.is("a SUM of 240 bytes", Due.island("pd1;p;t", "y:9" + times(118, "+1") + " ").thought(0, 0, 4), 127);
        DUE.is("PERSONS of 240 bytes", Due.island("p;p;" + times(235, " ") + "p").count(0), 3);
        RememberedWeight y = new RememberedWeight();
        DUE.is("two of each four", Due.feed(y, "p;pb1d2m0"), 9);
        DUE.is("text(0)", y.text(0), 2);
        DUE.is("BODY", Due.person(y, 1, 0), 1);
        DUE.is("DEEP", Due.person(y, 1, 1), 2);
    }

    private static void rules() {
        String[] others = {"p", "p", "t"};
        for (int first = 0; first <= 3; first++) {
            for (int second = -1; second <= 3; second++) {
                StringBuilder text = new StringBuilder();
                int fault = -1;
                int there = 0;
                for (int i = 0; i <= 3; i++) {
                    for (int s = (i == first ? 1 : 0) + (i == second ? 1 : 0); s > 0; s--) {
                        there++;
                        fault = there == 2 ? text.length() : fault;
                        text.append("s;");
                    }
                    if (i < 3) {
                        text.append(others[i]).append(i == 2 && Math.max(first, second) < 3 ? "" : ";");
                    }
                }
                String whole = text.charAt(text.length() - 1) == ';' ? text.substring(0, text.length() - 1) : text.toString();
                island(whole, fault);
            }
        }
    }

    private static void persons() {
        for (int n = 1; n <= 11; n++) {
            String text = times(n, ";p").substring(1);
            island(text, n < 2 ? text.length() : n <= 8 ? -1 : 16);
            island("s;" + text, n < 2 ? text.length() + 2 : n <= 8 ? -1 : 18);
            island(text + ";s", n < 2 ? text.length() + 2 : n <= 8 ? -1 : 16);
            if (n >= 2 && n <= 8) {
                RememberedWeight x = Due.island(text);
                DUE.is("PERSONS", x.count(0), n);
                DUE.is("the last one", Due.person(x, n - 1, 0), 9);
                DUE.is("nobody", Due.person(x, n, 0), Due.THROWS);
                DUE.is("bits of all", x.load((1 << n) - 1), 9000 * n);
                DUE.is("bits of nobody", x.load(1 << n), -1);
                DUE.is("all FLOAT", x.most(4), (1 << n) - 1);
            }
        }
    }

    private static void thoughts() {
        StringBuilder all = new StringBuilder(EIGHT);
        for (int n = 0; n <= 14; n++) {
            island(all.toString(), n <= 12 ? -1 : EIGHT.length() + 12 * 10 + 1);
            if (n > 0 && n <= 12) {
                RememberedWeight x = Due.island(all.toString());
                DUE.is("THOUGHTS", x.most(7), n);
                DUE.is("of whom the last one", x.thought((n - 1) % 8, (n - 1) / 8, 0), (n + 2) % 8);
                DUE.is("KIND of the last one", x.thought((n - 1) % 8, (n - 1) / 8, 1), (n + 1) % 3);
                DUE.is("STRENGTH of the last one", x.thought((n - 1) % 8, (n - 1) / 8, 2), 1 + (n - 1) % 9);
            }
            all.append(";ta").append(n % 8).append("o").append((n + 3) % 8).append("k").append((n + 2) % 3).append("s").append(1 + n % 9);
        }
        island(times(12, "t;") + "p;p", 27);
        island(times(13, "t;") + "p;p", 24);
    }

    private static void items() {
        String[] letters = {"wgbk", "bdm", "aoks"};
        String[] clauses = {"p;p;s", "p;p", "p;p;t"};
        for (int sort = 0; sort < 3; sort++) {
            for (char letter = 'a'; letter <= 'z'; letter++) {
                boolean known = letters[sort].indexOf(letter) >= 0;
                String text = clauses[sort] + letter;
                island(text, known ? text.length() : text.length() - 1);
                island(text + ";", known ? text.length() : text.length() - 1);
                island(clauses[sort] + Character.toUpperCase(letter) + "1", text.length() - 1);
            }
        }
    }

    /** Of all numbers of one to three digits: out of bounds wrong at the last digit, a third one itself. */
    private static void itemNumbers() {
        String[] letters = {"sw", "sg", "sb", "sk", "pb", "pd", "pm"};
        int[] low = {0, 1, 1, 0, 1, 1, 0};
        int[] high = {9, 99, 99, 99, 99, 99, 2};
        for (int i = 0; i < letters.length; i++) {
            for (String behind : new String[] {"", " ", ";t", ";x"}) {
                String ahead = "p;p;" + letters[i];
                int whole = behind.equals(";x") ? 1 : -1;
                for (int v = 0; v < 1000; v++) {
                    String number = String.valueOf(v);
                    int fault = v > 99 ? ahead.length() + 2 : v < low[i] || v > high[i]
                            ? ahead.length() + number.length() - 1 : whole < 0 ? -1 : ahead.length() + number.length() + 1;
                    island(ahead + number + behind, fault);
                    if (v < 10) {
                        fault = v < low[i] || v > high[i] ? ahead.length() + 1 : whole < 0 ? -1 : ahead.length() + 3;
                        island(ahead + "0" + number + behind, fault);
                    }
                    if (v < 100) {
                        island(ahead + "00".substring(v < 10 ? 0 : 1) + number + behind, ahead.length() + 2);
                    }
                }
                island(ahead + "9999999999" + behind, ahead.length() + 2);
                island(ahead + "4294967297" + behind, ahead.length() + 2);
                island(ahead + "0000000001" + behind, ahead.length() + 2);
            }
        }
    }

    private static void itemNumbersOfThoughts() {
        String[] letters = {"o0a", "a7o", "k", "s"};
        int[] low = {0, 0, 0, 1};
        int[] high = {7, 7, 2, 9};
        for (int i = 0; i < letters.length; i++) {
            String ahead = EIGHT + ";t" + letters[i];
            for (int v = 0; v < 1000; v++) {
                String number = String.valueOf(v);
                boolean oneself = i == 0 && v == 0 || i == 1 && v == 7;
                int length = ahead.length() + number.length();
                island(ahead + number, v > 99 ? ahead.length() + 2 : v < low[i] || v > high[i] ? length - 1
                        : oneself ? length : -1);
                if (v < 10) {
                    island(ahead + "0" + number, v < low[i] || v > high[i] ? length : oneself ? length + 1 : -1);
                    island(ahead + "00" + number, length + 1);
                }
            }
        }
    }

    private static void itemsTwice() {
        String[] clauses = {"s w1 g1 b1 k1", "p b1 d1 m1", "t a1 o0 k1 s1"};
        for (String clause : clauses) {
            String[] items = clause.split(" ");
            String whole = "p;p;" + clause.replace(" ", "");
            island(whole, -1);
            for (int i = 1; i < items.length; i++) {
                island(whole + items[i], whole.length());
                island("p;p;" + items[0] + items[i] + items[i], ("p;p;" + items[0] + items[i]).length());
                // another CLAUSE of that sort may have it again
                if (items[0].equals("p")) {
                    island("p;p;p" + items[i] + ";p" + items[i], -1);
                }
            }
        }
        island("p;p;ta1o0k1s1;ta1o0k1s1", -1);
        island("p;p;sb1;pb1", -1);
        island("p;p;tk1o1;sk1", -1);
    }

    /** Between all signs, not within numbers. */
    private static void blanks() {
        String text = "sw1g22b3k44;pb5d66m1;p;ta0o1k1s9";
        StringBuilder wide = new StringBuilder("  ");
        for (int i = 0; i < text.length(); i++) {
            boolean within = i > 0 && DIGITS.indexOf(text.charAt(i)) >= 0 && DIGITS.indexOf(text.charAt(i - 1)) >= 0;
            String ahead = text.substring(0, i);
            island(ahead + " " + text.substring(i), within ? i + 1 : -1);
            wide.append(within ? "" : "  ").append(text.charAt(i));
        }
        island(wide + "  ", -1);
        String sum = "y:!(s=12&k<3)|[a+1234]*2>d?w/h-[1];y:12";
        wide = new StringBuilder(" ");
        for (int i = 0; i < sum.length(); i++) {
            boolean within = i > 0 && DIGITS.indexOf(sum.charAt(i)) >= 0 && DIGITS.indexOf(sum.charAt(i - 1)) >= 0;
            law(sum.substring(0, i) + " " + sum.substring(i), within ? i + 1 : -1);
            wide.append(within ? "" : "   ").append(sum.charAt(i));
        }
        law(wide + " ", -1);
        // no other byte is a blank
        for (int other : new int[] {9, 10, 13, 31, 34, 127, 160}) {
            island("p;" + (char) other + "p", 2);
            law("y:" + (char) other + "s", 2);
        }
    }

    /** A THOUGHT of one, of somebody who is not told, of oneself. */
    private static void told() {
        for (int n = 2; n <= 8; n++) {
            String persons = times(n, ";p").substring(1);
            for (int who = 0; who < 8; who++) {
                for (int of = 0; of < 8; of++) {
                    String thought = "ta" + who + "o" + of;
                    boolean so = who < n && of < n && who != of;
                    island(persons + ";" + thought, so ? -1 : persons.length() + 6);
                    island(thought + ";" + persons, so ? -1 : persons.length() + 6);
                    // nothing is wrong yet, as long as PERSONS may come
                    island(thought + "; " + persons + " ;", persons.length() + 9);
                }
            }
        }
        island("to0;p;x", 6);
        island("p;p;to0;", 8);
        for (int mind = 0; mind <= 2; mind++) {
            for (int kind = 0; kind <= 2; kind++) {
                boolean so = mind == 0 || (mind == 2) == (kind == 2);
                island("pm" + mind + ";p;tk" + kind, so ? -1 : 9);
                island("tk" + kind + ";pm" + mind + ";p", so ? -1 : 9);
                island("p;pm" + mind + ";tk" + kind, -1);
                island("p;pm" + mind + ";ta1o0k" + kind, so ? -1 : 13);
            }
        }
    }

    private static void fullMinds() {
        for (int mind = 0; mind < 8; mind++) {
            String thought = ";ta" + mind + "o" + (mind + 1) % 8;
            for (int n = 3; n <= 6; n++) {
                String text = EIGHT + times(n, thought);
                island(text, n <= 4 ? -1 : text.length());
                String more = text + ";ta" + (mind + 2) % 8 + "o" + mind;
                island(more, n <= 4 ? -1 : more.length());
            }
            RememberedWeight x = Due.island(EIGHT + times(4, thought));
            DUE.is("FULL", x.most(8), 1 << mind);
            DUE.is("a fifth one", x.think(mind, (mind + 2) % 8, 0, 1), -1);
            DUE.is("status(3)", x.status(3), 1);
        }
        island("p;p;p" + times(4, ";t") + times(4, ";ta1o0") + times(4, ";ta2o0"), -1);
        // KINDS of a full MIND do not matter
        String five = "p;p;t;tk1;tk2;t;tk1";
        island(five, five.length());
    }

    /** Of several faults the first byte; what is wrong as a whole comes behind all bytes. */
    private static void firstFault() {
        island("x;p;pb0", 0);
        island("pb0;x", 2);
        island("pb0d0;p", 2);
        island("p;pb00d100", 5);
        island("p;to0;tk3;p", 8);
        island("p;pb0", 4);
        island("pb0", 2);
        island("p;t;t;t;t;t;z", 12);
        law("y:s=1;x", 5);
        law("y:12345;", 6);
        law("x:12345", 0);
    }

    /**
     * Each byte behind a text: of some the text is whole with it, of some it may go on and ends too early, all others
     * are the FAULT.
     */
    private static void next(int sort, String ahead, String whole, String early) {
        for (char c = 1; c < 256; c++) {
            int fault = whole.indexOf(c) >= 0 ? -1 : early.indexOf(c) >= 0 ? ahead.length() + 1 : ahead.length();
            DUE.is("fault(" + sort + ") of \"" + ahead + "\" and " + (int) c, Due.fault(ahead + c, sort), fault);
        }
    }

    private static void nextOfIslands() {
        next(0, "", "", "spt ");
        next(0, "s", "", "wgbk; ");
        next(0, "p", "", "bdm; ");
        next(0, "t", "", "aoks; ");
        next(0, "p;", "p", "st ");
        next(0, "p;s;", "p", "t ");
        next(0, "p;p", " ", "bdm;");
        next(0, "p;p;", "pst", " ");
        next(0, "p;p;s", " ", "wgbk;");
        next(0, "p;p;sw", DIGITS, " ");
        next(0, "p;p;sk", DIGITS, " ");
        next(0, "p;p;sg", "123456789", " ");
        next(0, "p;p;sw0", DIGITS + " ", "gbk;");
        next(0, "p;p;sw1", " ", "gbk;");
        next(0, "p;p;sw00", " ", "gbk;");
        next(0, "p;p;pm", "012", " ");
        next(0, "p;p;pm0", "012 ", "bd;");
        next(0, "p;p;pb1", DIGITS + " ", "dm;");
        next(0, "p;p;pb10", " ", "dm;");
        next(0, "p;p;pb1d1m1", " ", ";");
        next(0, "p;p;t", " ", "aoks;");
        next(0, "p;p;ta1o", "0", "1234567 ");
        next(0, "p;p;ts", "123456789", " ");
        next(0, EIGHT + ";", "ts", " ");
        next(0, EIGHT + ";s;", "t", " ");
        next(0, EIGHT + times(4, ";t") + times(4, ";ta1o0") + times(4, ";ta2o0") + ";", "s", " ");
    }

    private static void nextOfLaws() {
        next(1, "", "", "y ");
        next(1, "y", "", ": ");
        next(1, "y:", ATOMS, "[(! ");
        next(1, "y: ", ATOMS, "[(! ");
        next(1, "y:s", " ", "+-*/=<>;");
        next(1, "y:s ", " ", "+-*/=<>;");
        next(1, "y:1", DIGITS + " ", "+-*/=<>;");
        next(1, "y:1234", " ", "+-*/=<>;");
        next(1, "y:0000", " ", "+-*/=<>;");
        next(1, "y:s;", "", "y ");
        next(1, "y:s;y:", ATOMS, "[(! ");
        for (char sign : "+-*/".toCharArray()) {
            next(1, "y:s" + sign, ATOMS, "[ ");
            next(1, "y:s" + sign + "k", " ", "+-*/=<>;");
            next(1, "y:s=1?a" + sign, ATOMS, "[ ");
            next(1, "y:s=1?a" + sign + "d", " ", "+-*/;");
            next(1, "y:(w" + sign, "", ATOMS + "[ ");
        }
        next(1, "y:[", "", ATOMS + "[ ");
        next(1, "y:[s", "]", "+-*/ ");
        next(1, "y:[[s", "", "+-*/] ");
        next(1, "y:[[s]", "]", "+-*/ ");
        next(1, "y:[s]", " ", "+-*/=<>;");
        next(1, "y:[s]+[1", "]", DIGITS + "+-*/ ");
    }

    private static void nextOfConditions() {
        for (char sign : "=<>".toCharArray()) {
            next(1, "y:s" + sign, "", ATOMS + "[ ");
            next(1, "y:s" + sign + "k", "", "+-*/&|? ");
            next(1, "y:s" + sign + "1", "", DIGITS + "+-*/&|? ");
            next(1, "y:(s" + sign + "k", "", "+-*/&|) ");
            next(1, "y:!s" + sign + "k", "", "+-*/&|? ");
        }
        next(1, "y:s=[k", "", "+-*/] ");
        next(1, "y:s=[k]", "", "+-*/&|? ");
        for (String ahead : new String[] {"y:(", "y:!", "y:((", "y:!!", "y:(!", "y:!(", "y:s=1&", "y:s=1|", "y:(s=1)&", "y:!s=1|"}) {
            next(1, ahead, "", ATOMS + "[(! ");
        }
        for (String ahead : new String[] {"y:(s", "y:!s", "y:s=1&s", "y:s=1|s", "y:!(s", "y:(!s"}) {
            next(1, ahead, "", "+-*/=<> ");
        }
        next(1, "y:(s=1)", "", "&|? ");
        next(1, "y:((s=1)", "", "&|) ");
        next(1, "y:(!(s=1)", "", "&|) ");
        next(1, "y:!(s=1)", "", "&|? ");
        next(1, "y:s=1&(k=2)", "", "&|? ");
        next(1, "y:s=1?", ATOMS, "[ ");
        next(1, "y:s=1?s", " ", "+-*/;");
        next(1, "y:s=1?[s", "]", "+-*/ ");
        next(1, "y:s=1?[s]", " ", "+-*/;");
        next(1, "y:(s=1)?1", DIGITS + " ", "+-*/;");
        next(1, "y:s=1?s;", "", "y ");
        next(1, "y:1;y:(s=1", "", DIGITS + "+-*/&|) ");
    }

    /** One to four digits; a fifth one itself, wherever a number may stand. */
    private static void lawNumbers() {
        String[][] places = {{"y:", ""}, {"y:s+", "*k"}, {"y:[", "]"}, {"y:s=", "?1"}, {"y:", "=s?1"}, {"y:(k<", ")?2"},
            {"y:!", ">1?2"}, {"y:s=1?", ""}, {"y:1;y:", ";y:2"}};
        String[] numbers = {"0", "9", "00", "99", "10", "000", "999", "0000", "9999", "1000", "00000", "99999", "10000",
            "000000", "4294967296", "00000000000000000001"};
        for (String[] place : places) {
            for (String number : numbers) {
                law(place[0] + number + place[1], number.length() <= 4 ? -1 : place[0].length() + 4);
            }
        }
    }

    /** All ways to put six of ( and ! within one another, and a seventh. */
    private static void nesting() {
        for (int way = 0; way < 1 << 7; way++) {
            StringBuilder open = new StringBuilder("y:");
            StringBuilder closed = new StringBuilder();
            for (int i = 0; i < 7; i++) {
                boolean round = (way >> i & 1) == 1;
                open.append(round ? "(" : "!");
                closed.append(round ? ")" : "");
                String text = open + "s=1" + closed + "?1";
                law(text, i < 6 ? -1 : 8);
            }
        }
        law("y:!!!!!!s=1&!!!!!!k=1|!!!!!!a=1?1", -1);
        law("y:!!!!!!s=1&!!!!!!k=1|!!!!!!!a=1?1", 28);
        law("y:((((((s=1))))))|((((((s=1))))))?1", -1);
        law("y:((((((s=1)))))&(s=1))?1", -1);
        law("y:((((((s=1))))|((s=1)))&(s=1))?1", -1);
        law("y:((((((s=1)))))&((s=1)))?1", -1);
        // the sixth again, a seventh
        law("y:((((((s=1)&(k=1", 17);
        law("y:((((((s=1)&!k=1", 17);
        law("y:((((((s=1&(k=1", 12);
        law("y:((((((s=1|!k=1", 12);
    }

    private static void nestingInSums() {
        for (int around = 0; around <= 6; around++) {
            String open = "y:" + times(around, "(");
            String closed = times(around, ")") + "?1";
            for (int within = 0; within <= 8; within++) {
                String sum = times(within, "[") + "s" + times(within, "]");
                // the seventh one lies so far behind those around the SUM
                int seventh = 6 - around;
                int fault = around + within <= 6 ? -1 : open.length() + seventh;
                law(open + sum + "=1" + closed, fault);
                String left = open + "1=";
                law(left + sum + closed, around + within <= 6 ? -1 : left.length() + seventh);
                String not = "y:" + times(around, "!") + "1<";
                law(not + sum + "?1", around + within <= 6 ? -1 : not.length() + seventh);
            }
        }
        for (int within = 1; within <= 8; within++) {
            String sum = times(within, "[") + "s" + times(within, "]");
            law("y:" + sum, within <= 6 ? -1 : 8);
            law("y:s=1?" + sum, within <= 6 ? -1 : 12);
            law("y:1+" + sum + "*" + sum, within <= 6 ? -1 : 10);
            law("y:1;y:" + sum, within <= 6 ? -1 : 12);
        }
        law("y:[[[[[[s]+1]*2]/3]-4]+5]", -1);
        law("y:[[[[[[s]]+[k]]]]+[[[[[a]]]]]]", -1);
        law("y:[[[[[[s]]+[k]]]]+[[[[[[a]]]]]]]", 24);
    }

    /** Sixty CLAUSES are what 240 bytes can hold. */
    private static void manyClauses() {
        String sixty = times(60, ";y:1").substring(1);
        law(sixty, -1);
        law(sixty + ";", 240);
        DUE.is("the first one", Due.island("pd1;p;t", "y:7;" + times(59, ";y:1").substring(1)).thought(0, 0, 4), 7);
        // thirty, 8 bytes each, of which the last one alone holds, or none
        String some = times(29, "y:s=7?1;");
        DUE.is("the last one", Due.island("pd1;p;t", some + "y:s=3?8").thought(0, 0, 4), 8);
        DUE.is("none", Due.island("pd1;p;t", some + "y:s=4?8").thought(0, 0, 4), 0);
    }

    private static void fourLaws() {
        RememberedWeight x = new RememberedWeight();
        for (int i = 0; i < 4; i++) {
            Due.feed(x, "y:" + (10 + i));
            DUE.is("text(1)", x.text(1), i);
            DUE.is("count(1)", x.count(1), i + 1);
        }
        for (int i = 0; i < 3; i++) {
            Due.feed(x, "y:99");
            DUE.is("a fifth one", x.text(1), -1);
            DUE.is("count(1)", x.count(1), 4);
            DUE.is("the TAPE stays", x.count(2), 4);
            DUE.is("no FAULT", x.fault(1), -1);
            x.end(0);
        }
        Due.feed(x, "pd1;pd1;t");
        DUE.is("text(0)", x.text(0), 2);
        for (int i = 0; i < 4; i++) {
            DUE.is("law", x.law(i), true);
            DUE.is("by this LAW", x.thought(0, 0, 4), 10 + i);
        }
        DUE.is("a fifth one", x.law(4), false);
        DUE.is("the fourth one yet", x.thought(0, 0, 4), 13);
    }
}
