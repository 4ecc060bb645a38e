import java.util.Random;

/** Texts of ISLANDS and LAWS by draws. */
final class Texts {
    private final Random random;

    Texts(Random random) {
        this.random = random;
    }

    private int from(int low, int high) {
        return low + random.nextInt(high - low + 1);
    }

    private boolean in(int n) {
        return random.nextInt(n) == 0;
    }

    private String number(int v) {
        return v < 10 && in(6) ? "0" + v : "" + v;
    }

    private void items(StringBuilder text, String letters, int[] values, int usually) {
        boolean[] done = new boolean[letters.length()];
        for (int i = 0; i < letters.length(); i++) {
            int j = random.nextInt(letters.length());
            if (!done[j] && random.nextInt(100) < usually) {
                text.append(letters.charAt(j)).append(number(values[j]));
                done[j] = true;
            }
        }
        for (int j = 0; j < letters.length(); j++) {
            if (!done[j] && (letters.length() == 4 && usually == 100 || random.nextInt(100) < usually)) {
                text.append(letters.charAt(j)).append(number(values[j]));
            }
        }
    }

    /** An ISLAND, nearly always a whole one. */
    String island() {
        int persons = in(4) ? from(2, 8) : from(2, 4);
        int thoughts = in(3) ? from(0, 12) : from(0, 5);
        int deepest = in(2) ? 3 : 99;
        int[] minds = new int[persons];
        int[] full = new int[persons];
        StringBuilder text = new StringBuilder();
        int rulesAhead = in(5) ? -1 : random.nextInt(2);
        if (rulesAhead == 0) {
            rules(text);
            text.append(';');
        }
        for (int i = 0; i < persons; i++) {
            minds[i] = in(2) ? 0 : from(0, 2);
            text.append(i == 0 ? "" : ";").append('p');
            int body = in(3) ? from(1, 99) : from(1, 20);
            text.append("m").append(minds[i]);
            if (!in(4)) {
                text.append("b").append(number(body));
            }
            if (!in(4)) {
                text.append("d").append(number(from(1, deepest)));
            }
        }
        for (int i = 0; i < thoughts; i++) {
            int who = random.nextInt(persons);
            int of = in(30) ? random.nextInt(8) : (who + from(1, persons - 1)) % persons;
            int kind = in(40) ? from(0, 2) : minds[who] == 0 ? from(0, 2) : minds[who] == 1 ? from(0, 1) : 2;
            if (full[who]++ < 4 || in(40)) {
                text.append(";t");
                items(text, "aoks", new int[] {who, of, kind, from(1, 9)}, 100);
            }
        }
        if (rulesAhead == 1) {
            text.append(';');
            rules(text);
        }
        return blanks(text.toString());
    }

    private void rules(StringBuilder text) {
        text.append('s');
        items(text, "wgbk", new int[] {from(0, 9), in(2) ? from(1, 5) : from(1, 99), in(2) ? from(1, 10) : from(1, 99),
            in(3) ? 99 : from(0, 99)}, 60);
    }

    /** Now and then blanks between signs. */
    String blanks(String text) {
        if (!in(4)) {
            return text;
        }
        StringBuilder wide = new StringBuilder();
        for (int i = 0; i < text.length(); i++) {
            boolean within = i > 0 && Character.isDigit(text.charAt(i)) && Character.isDigit(text.charAt(i - 1));
            if (!within && in(5)) {
                wide.append(in(2) ? " " : "  ");
            }
            wide.append(text.charAt(i));
        }
        return wide.append(in(2) ? "" : " ").toString();
    }

    /** A LAW, always a whole one unless it is long. */
    String law() {
        StringBuilder text = new StringBuilder();
        int clauses = in(2) ? 1 : from(1, 4);
        for (int i = 0; i < clauses; i++) {
            text.append(i == 0 ? "" : ";").append("y:");
            if (!in(3) || i < clauses - 1) {
                condition(text, 0);
                text.append('?');
            }
            if (in(2)) {
                text.append("" + from(1, 9999)).append("*s/[a+1]").append(in(2) ? "" : "-" + from(0, 50));
            } else {
                sum(text, 0);
            }
        }
        return blanks(text.toString());
    }

    private void condition(StringBuilder text, int depth) {
        truth(text, depth);
        while (in(4)) {
            text.append('|');
            truth(text, depth);
        }
    }

    private void truth(StringBuilder text, int depth) {
        unit(text, depth);
        while (in(4)) {
            text.append('&');
            unit(text, depth);
        }
    }

    private void unit(StringBuilder text, int depth) {
        if (depth < 6 && in(5)) {
            text.append('!');
            unit(text, depth + 1);
        } else if (depth < 6 && in(5)) {
            text.append('(');
            condition(text, depth + 1);
            text.append(')');
        } else {
            sum(text, depth);
            text.append("=<>".charAt(random.nextInt(3)));
            sum(text, depth);
        }
    }

    private void sum(StringBuilder text, int depth) {
        term(text, depth);
        while (in(3)) {
            text.append("+-".charAt(random.nextInt(2)));
            term(text, depth);
        }
    }

    private void term(StringBuilder text, int depth) {
        atom(text, depth);
        while (in(3)) {
            text.append("*/".charAt(random.nextInt(2)));
            atom(text, depth);
        }
    }

    private void atom(StringBuilder text, int depth) {
        if (depth < 6 && in(6)) {
            text.append('[');
            sum(text, depth + 1);
            text.append(']');
        } else if (in(2)) {
            text.append("skadwh".charAt(random.nextInt(6)));
        } else {
            text.append(in(2) ? from(0, 9) : from(0, 9999));
        }
    }

    /** A text with a sign or a few put in, left out or put instead of others. */
    String spoilt(String text, String signs) {
        StringBuilder spoilt = new StringBuilder(text);
        for (int i = from(1, 3); i > 0; i--) {
            int at = random.nextInt(spoilt.length() + 1);
            char sign = signs.charAt(random.nextInt(signs.length()));
            int how = random.nextInt(4);
            if (how == 0) {
                spoilt.insert(at, sign);
            } else if (how == 1 && at < spoilt.length()) {
                spoilt.deleteCharAt(at);
            } else if (how == 2 && at < spoilt.length()) {
                spoilt.setCharAt(at, sign);
            } else if (how == 3) {
                spoilt.setLength(at);
            }
        }
        return spoilt.toString();
    }
}
