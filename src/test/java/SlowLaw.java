import java.util.ArrayList;
import java.util.List;
import java.util.Map;

/** The law's text, split where the document says it splits, with no reading ahead kept. */
final class SlowLaw {
    record Clause(char kind, String expression, String condition) { }

    private static final class Refused extends RuntimeException {
        private static final long serialVersionUID = 1;
    }

    private static final class Fault extends RuntimeException {
        private static final long serialVersionUID = 1;
        final int number;

        Fault(int number) {
            this.number = number;
        }
    }

    private SlowLaw() { }

    static List<Clause> clausesOf(String text) {
        List<Clause> clauses = new ArrayList<>();
        if (text.isEmpty()) {
            return clauses;
        }
        for (String clause : text.split(";")) {
            int at = clause.indexOf('(');
            String condition = clause.substring(at + 1, clause.length() - 1);
            clauses.add(new Clause(clause.charAt(0), clause.substring(1, at), condition));
        }
        return clauses;
    }

    static boolean holds(String condition, Map<Character, Integer> letters) {
        try {
            return choice(condition, letters);
        } catch (Refused refused) {
            return false;
        }
    }

    static int value(String expression, Map<Character, Integer> letters) {
        try {
            return sum(expression, letters);
        } catch (Refused refused) {
            return 0;
        }
    }

    /** The pieces of a text between signs that stand in no bracket; each behind its own sign. */
    private static List<String> split(String text, String signs) {
        List<String> pieces = new ArrayList<>();
        int depth = 0;
        int from = 0;
        for (int i = 0; i < text.length(); i++) {
            char c = text.charAt(i);
            depth += c == '(' || c == '[' ? 1 : c == ')' || c == ']' ? -1 : 0;
            if (depth == 0 && signs.indexOf(c) >= 0) {
                pieces.add(text.substring(from, i));
                from = i;
            }
        }
        pieces.add(text.substring(from));
        return pieces;
    }

    private static String bare(List<String> pieces, int i) {
        return i == 0 ? pieces.get(0) : pieces.get(i).substring(1);
    }

    private static boolean choice(String c, Map<Character, Integer> letters) {
        List<String> parts = split(c, "|");
        for (int i = 0; i < parts.size(); i++) {
            if (part(bare(parts, i), letters)) {
                return true;
            }
        }
        return false;
    }

    private static boolean part(String part, Map<Character, Integer> letters) {
        List<String> pieces = split(part, "&");
        for (int i = 0; i < pieces.size(); i++) {
            if (!piece(bare(pieces, i), letters)) {
                return false;
            }
        }
        return true;
    }

    private static boolean piece(String piece, Map<Character, Integer> letters) {
        if (piece.charAt(0) == '!') {
            return !piece(piece.substring(1), letters);
        }
        if (piece.charAt(0) == '(') {
            return choice(piece.substring(1, piece.length() - 1), letters);
        }
        List<String> sides = split(piece, "<>=");
        int a = sum(sides.get(0), letters);
        int b = sum(bare(sides, 1), letters);
        char sign = sides.get(1).charAt(0);
        return sign == '<' ? a < b : sign == '>' ? a > b : a == b;
    }

    private static int sum(String e, Map<Character, Integer> letters) {
        List<String> terms = split(e, "+-");
        int sum = 0;
        for (int i = 0; i < terms.size(); i++) {
            int term = term(bare(terms, i), letters);
            sum = i > 0 && terms.get(i).charAt(0) == '-' ? sum - term : sum + term;
        }
        return sum;
    }

    private static int term(String term, Map<Character, Integer> letters) {
        List<String> factors = split(term, "*/%");
        int product = factor(factors.get(0), letters);
        for (int i = 1; i < factors.size(); i++) {
            int by = factor(bare(factors, i), letters);
            char sign = factors.get(i).charAt(0);
            if (sign != '*' && by == 0) {
                throw new Refused();
            }
            product = sign == '*' ? product * by : sign == '/' ? product / by : product % by;
        }
        return product;
    }

    private static int factor(String factor, Map<Character, Integer> letters) {
        char c = factor.charAt(0);
        if (c == '[') {
            return sum(factor.substring(1, factor.length() - 1), letters);
        }
        return Character.isDigit(c) ? Integer.parseInt(factor) : letters.getOrDefault(c, 0);
    }

    /**
     * The first fault or 0, by a stack of what is expected: what stands on top of it
     * takes the next sign or gives way to other expectations.
     */
    static int fault(String text) {
        StringBuilder due = new StringBuilder("T");
        int clauses = 0;
        int digits = 0;
        int at = 0;
        for (int guard = 0; guard < 100000; guard++) {
            int c = at < text.length() ? text.charAt(at) : -1;
            if (due.length() == 0) {
                return c == -1 ? 0 : -1000 - at;
            }
            char top = due.charAt(due.length() - 1);
            due.setLength(due.length() - 1);
            int open = (int) due.chars().filter(d -> ")]!".indexOf(d) >= 0).count();
            try {
                String more = expand(top, c, open, clauses, digits);
                clauses += top == 'T' ? 1 : 0;
                digits = top == 'D' && more.equals(">D") ? digits + 1 : 0;
                if (more.startsWith(">")) {
                    at++;
                    more = more.substring(1);
                }
                due.append(new StringBuilder(more).reverse());
            } catch (Fault fault) {
                return -1000 * fault.number - at;
            }
        }
        throw new IllegalStateException("no end");
    }

    /** What comes in place of an expectation; a leading > takes the sign. */
    private static String expand(char top, int c, int open, int clauses, int digits) {
        switch (top) {
            case 'T': // a clause and what may follow it
                if (c != 'n' && c != 'r' && c != 's') {
                    throw new Fault(1);
                }
                if (clauses == 14) {
                    throw new Fault(4);
                }
                return c == 'n' ? ">KU" : ">EKU";
            case 'K': // its ( is open from here on alone, not yet in the E ahead of it
                return c == '(' ? ">C)" : fail();
            case 'U':
                return c == ';' ? ">T" : c == -1 ? "" : fail();
            case 'C':
                return "Pc";
            case 'c':
                return c == '|' ? ">C" : "";
            case 'P':
                return "Qp";
            case 'p':
                return c == '&' ? ">P" : "";
            case 'Q':
                return c == '!' ? nested(open, ">Q!") : c == '(' ? nested(open, ">C)") : "E=E";
            case '!': // here a ! ends
                return "";
            case 'E':
                return "Fe";
            case 'e':
                return c == '+' || c == '-' || c == '*' || c == '/' || c == '%' ? ">E" : "";
            case 'F':
                if (c == '[') {
                    return nested(open, ">E]");
                }
                return c >= '0' && c <= '9' ? "D" : c >= 0 && "abcdefghijpxvyzkwmt".indexOf(c) >= 0 ? ">" : fail();
            case 'D':
                if (c >= '0' && c <= '9') {
                    if (digits == 5) {
                        throw new Fault(2);
                    }
                    return ">D";
                }
                return "";
            case '=':
                return c == '<' || c == '>' || c == '=' ? ">" : fail();
            default: // ) and ] stand for themselves
                return c == top ? ">" : fail();
        }
    }

    private static String nested(int open, String more) {
        if (open == 6) {
            throw new Fault(5);
        }
        return more;
    }

    private static String fail() {
        throw new Fault(1);
    }
}
