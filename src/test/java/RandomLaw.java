import java.util.Random;

/** Texts of laws, right ones and broken ones. */
final class RandomLaw {
    private static final String LETTERS = "abcdefghijabcpxvyzkwmt";
    private static final String SIGNS = "nrs;()[]!&|<>=+-*/%0123456789abcjkmptvwxyzlqu~ ";

    private final Random random;

    private RandomLaw(Random random) {
        this.random = random;
    }

    static String lawful(Random random) {
        RandomLaw maker = new RandomLaw(random);
        StringBuilder text = new StringBuilder();
        int clauses = random.nextInt(8) == 0 ? 14 : 1 + random.nextInt(5);
        for (int i = 0; i < clauses; i++) {
            String clause = maker.clause();
            if (text.length() + clause.length() < 199) {
                text.append(text.length() == 0 ? "" : ";").append(clause);
            }
        }
        return text.length() == 0 ? "r1(1=1)" : text.toString();
    }

    /** A law by which fact 0 hangs on the others, and all is said that hurts. */
    static String puzzle(Random random, int facts) {
        StringBuilder sum = new StringBuilder();
        int terms = 1 + random.nextInt(6);
        for (int i = 0; i < terms; i++) {
            sum.append(i == 0 ? "" : random.nextBoolean() ? "*" : "+");
            sum.append((char) ('a' + Math.min(facts - 1, 1 + random.nextInt(6))));
        }
        String end = random.nextInt(3) == 0 ? ";n(b+c=2)" : "";
        String willing = random.nextInt(4) == 0 ? ";r1(y>4|p=x)" : ";r1(1=1)";
        return "n(!a=[" + sum + "]%2)" + end + willing + ";s40-10*m-t*b(m>1);s30+5*a(1=1)";
    }

    /** A law by which some facts choose which other ones fact 0 hangs on; some worlds can't be. */
    static String choosing(Random random, int facts) {
        String text = "n(" + chosen(random, facts, 3) + ");r1(1=1)";
        if (random.nextInt(3) == 0) {
            text += ";n(" + other(random, facts) + "+" + other(random, facts) + "=" + random.nextInt(3) + ")";
        }
        return text.length() > 200 ? "n(!a=b);r1(1=1)" : text;
    }

    private static String chosen(Random random, int facts, int depth) {
        char by = other(random, facts);
        if (depth == 0 || random.nextInt(5) == 0) {
            return (random.nextBoolean() ? "a=" : "!a=") + by;
        }
        String one = chosen(random, facts, depth - 1);
        String two = chosen(random, facts, depth - 1);
        return "(" + by + "=0&" + one + "|" + by + "=1&" + two + ")";
    }

    private static char other(Random random, int facts) {
        return (char) ('b' + random.nextInt(facts - 1));
    }

    static String broken(Random random) {
        StringBuilder text = new StringBuilder(lawful(random));
        for (int i = 0; i <= random.nextInt(3); i++) {
            int at = random.nextInt(text.length());
            char sign = SIGNS.charAt(random.nextInt(SIGNS.length()));
            switch (random.nextInt(8)) {
                case 0: text.setLength(Math.max(1, at)); break;
                case 1: text.setCharAt(at, sign); break;
                case 2: text.deleteCharAt(at); break;
                case 3: text.insert(at, ("" + sign).repeat(1 + random.nextInt(7))); break;
                case 4: text.setCharAt(at, (char) random.nextInt(256)); break;
                case 5: nest(text, random, '(', "(!"); break;
                case 6: nest(text, random, random.nextBoolean() ? '=' : '+', "["); break;
                default: text.append(";n(a=2)".repeat(1 + random.nextInt(14))); break;
            }
            text.setLength(Math.max(1, Math.min(200, text.length())));
        }
        return text.toString();
    }

    /** Opens some more behind a sign where that can stand. */
    private static void nest(StringBuilder text, Random random, char behind, String openings) {
        int at = text.indexOf("" + behind);
        for (int i = 0; at >= 0 && i < 2 + random.nextInt(8); i++) {
            text.insert(at + 1, openings.charAt(random.nextInt(openings.length())));
        }
    }

    private String clause() {
        int kind = random.nextInt(8);
        if (kind < 2) {
            return "n(" + condition(5) + ")";
        }
        if (kind == 2) {
            return "r1(1=1)";
        }
        return (kind < 6 ? "r" : "s") + sum(6) + "(" + (random.nextInt(3) == 0 ? "1=1" : condition(5)) + ")";
    }

    private String condition(int depth) {
        StringBuilder c = new StringBuilder(piece(depth));
        while (random.nextInt(3) == 0) {
            c.append(random.nextBoolean() ? '|' : '&').append(piece(depth));
        }
        return c.toString();
    }

    private String piece(int depth) {
        int kind = random.nextInt(7);
        if (depth > 0 && kind == 0) {
            return "!" + piece(depth - 1);
        }
        if (depth > 0 && kind == 1) {
            return "(" + condition(depth - 1) + ")";
        }
        return sum(depth) + "<>=".charAt(random.nextInt(3)) + sum(depth);
    }

    private String sum(int depth) {
        StringBuilder e = new StringBuilder(factor(depth));
        while (random.nextInt(3) == 0) {
            e.append("+-*/%".charAt(random.nextInt(5))).append(factor(depth));
        }
        return e.toString();
    }

    private String factor(int depth) {
        int kind = random.nextInt(10);
        if (depth > 0 && kind == 0) {
            return "[" + sum(depth - 1) + "]";
        }
        if (kind < 4) {
            return kind == 1 ? "" + random.nextInt(100000) : "" + random.nextInt(4);
        }
        return "" + LETTERS.charAt(random.nextInt(LETTERS.length()));
    }
}
