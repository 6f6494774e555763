import java.util.ArrayList;
import java.util.Arrays;
import java.util.HashMap;
import java.util.List;
import java.util.Map;
import java.util.TreeSet;

/**
 * The document once more, as plainly as it can be said and with no care for speed: the law is read
 * anew from its text each time, worlds are sets of numbers, questions are really asked of everyone.
 */
final class SlowCourt {
    private static final int UNPROVABLE = 1000;

    private final List<Integer> tape = new ArrayList<>();
    private final List<Person> people = new ArrayList<>();
    private final List<Row> book = new ArrayList<>();
    private TreeSet<Integer> left = new TreeSet<>();
    private String text = "";
    private int factCount = 1;
    private int truth = 0;
    private int x = 1;
    /** What is known of who would say what, within one call that asks it over and over. */
    private Map<Integer, Boolean> sayings = null;

    private static final class Person {
        int silence;
        int known;
        int spent;
        final int[][] harm = new int[10][2];
    }

    private record Row(int p, int fact, int answer, TreeSet<Integer> before, int spentBefore) { }

    SlowCourt() {
        restart();
    }

    private TreeSet<Integer> canBe() {
        TreeSet<Integer> all = new TreeSet<>();
        for (int w = 0; w < 1 << factCount; w++) {
            Map<Character, Integer> letters = new HashMap<>();
            putFacts(letters, w);
            boolean can = true;
            for (SlowLaw.Clause c : SlowLaw.clausesOf(text)) {
                if (c.kind() == 'n' && SlowLaw.holds(c.condition(), letters)) {
                    can = false;
                }
            }
            if (can) {
                all.add(w);
            }
        }
        return all;
    }

    private static void putFacts(Map<Character, Integer> letters, int bits) {
        for (int f = 0; f < 10; f++) {
            letters.put((char) ('a' + f), bits >> f & 1);
        }
    }

    private void restart() {
        left = canBe();
        book.clear();
        for (Person p : people) {
            p.spent = 0;
        }
    }

    private boolean isPerson(int p) {
        return p >= 0 && p < people.size();
    }

    private boolean isFact(int f) {
        return f >= 0 && f < factCount;
    }

    private static int bit(int world, int fact) {
        return world / (1 << fact) % 2;
    }

    private int firstClause(char kind, Map<Character, Integer> letters, int most) {
        for (SlowLaw.Clause c : SlowLaw.clausesOf(text)) {
            if (c.kind() == kind && SlowLaw.holds(c.condition(), letters)) {
                return Math.max(0, Math.min(most, SlowLaw.value(c.expression(), letters)));
            }
        }
        return 0;
    }

    private boolean says(int p, int f, int v) {
        if (sayings == null) {
            return saysByLaw(p, f, v);
        }
        return sayings.computeIfAbsent(100 * p + 10 * v + f, key -> saysByLaw(p, f, v));
    }

    private boolean saysByLaw(int p, int f, int v) {
        Person one = people.get(p);
        if (bit(one.known, f) == 0 || one.harm[f][v] == 0) {
            return false;
        }
        Map<Character, Integer> letters = new HashMap<>();
        letters.put('p', p);
        letters.put('x', f);
        letters.put('v', v);
        letters.put('y', one.harm[f][v]);
        letters.put('z', one.silence);
        letters.put('k', (int) people.stream().filter(q -> bit(q.known, f) == 1).count());
        letters.put('w', Integer.bitCount(one.known));
        return firstClause('r', letters, 99) > 0;
    }

    private TreeSet<Integer> by(TreeSet<Integer> worlds, int p, int f, int answer) {
        TreeSet<Integer> rest = new TreeSet<>();
        for (int w : worlds) {
            boolean stays = answer == 2 ? !says(p, f, bit(w, f)) : bit(w, f) == answer;
            if (stays) {
                rest.add(w);
            }
        }
        return rest;
    }

    private int provedIn(TreeSet<Integer> worlds, int f) {
        int trues = 0;
        for (int w : worlds) {
            trues += bit(w, f);
        }
        if (worlds.isEmpty() || trues != 0 && trues != worlds.size()) {
            return 2;
        }
        return trues == 0 ? 0 : 1;
    }

    private int provedBits(TreeSet<Integer> worlds, boolean trueOnly) {
        int bits = 0;
        for (int f = 0; f < factCount; f++) {
            int proved = provedIn(worlds, f);
            if (proved == 1 || proved == 0 && !trueOnly) {
                bits |= 1 << f;
            }
        }
        return bits;
    }

    private int sentenceIn(TreeSet<Integer> worlds, int p, int spent) {
        Map<Character, Integer> letters = new HashMap<>();
        putFacts(letters, provedBits(worlds, true));
        letters.put('p', p);
        letters.put('m', Integer.bitCount(provedBits(worlds, false)));
        letters.put('t', spent);
        return firstClause('s', letters, 999);
    }

    int facts(int n) {
        if (n < 1 || n > 10) {
            return -1;
        }
        factCount = n;
        truth %= 1 << n;
        restart();
        return left.size();
    }

    boolean truth(int world) {
        boolean right = world >= 0 && world < 1 << factCount;
        truth = right ? world : truth;
        return right;
    }

    int person(int silence) {
        if (silence < 0 || silence > 99 || people.size() == 5) {
            return -1;
        }
        Person p = new Person();
        p.silence = silence;
        people.add(p);
        return people.size() - 1;
    }

    boolean knows(int p, int facts) {
        if (!isPerson(p) || facts < 0 || facts > 1023) {
            return false;
        }
        people.get(p).known = facts;
        return true;
    }

    boolean harm(int p, int fact, int value, int n) {
        if (!isPerson(p) || fact < 0 || fact > 9 || value < 0 || value > 1 || n < 0 || n > 99) {
            return false;
        }
        people.get(p).harm[fact][value] = n;
        return true;
    }

    int feed(int... numbers) {
        if (tape.size() > 200) {
            return -1;
        }
        for (int number : numbers) {
            for (byte b : java.nio.ByteBuffer.allocate(4).putInt(number).array()) {
                tape.add(b & 255);
            }
        }
        return tape.size();
    }

    int law(int n) {
        if (n < 1 || n > 200 || n > tape.size()) {
            return -1;
        }
        StringBuilder told = new StringBuilder();
        for (int b : tape.subList(0, n)) {
            told.append((char) b);
        }
        tape.clear();
        int fault = SlowLaw.fault(told.toString());
        if (fault != 0) {
            return fault;
        }
        text = told.toString();
        restart();
        return SlowLaw.clausesOf(text).size();
    }

    int would(int p, int f, int v) {
        return !isPerson(p) || !isFact(f) || v < 0 || v > 1 ? -1 : says(p, f, v) ? 1 : 0;
    }

    int ask(int p, int f) {
        if (!isPerson(p) || !isFact(f)) {
            return -1;
        }
        if (book.size() == 40) {
            return -2;
        }
        Person one = people.get(p);
        int v = bit(truth, f);
        int answer = says(p, f, v) ? v : 2;
        book.add(new Row(p, f, answer, left, one.spent));
        one.spent += answer == 2 ? one.silence : one.harm[f][v];
        left = by(left, p, f, answer);
        return answer;
    }

    int half(int p, int f, int g) {
        if (!isPerson(p) || !isFact(f) || !isFact(g) || f == g) {
            return -1;
        }
        if (book.size() == 40) {
            return -2;
        }
        Person one = people.get(p);
        boolean would = says(p, f, 1) && says(p, g, 1);
        boolean said = would && (bit(truth, f) == 1 || bit(truth, g) == 1);
        book.add(new Row(p, f, said ? 3 : 4, left, one.spent));
        one.spent += said ? Math.min(one.harm[f][1], one.harm[g][1]) : one.silence;
        TreeSet<Integer> rest = new TreeSet<>(left);
        if (would) {
            rest.removeIf(w -> said == (bit(w, f) == 0 && bit(w, g) == 0));
        }
        left = rest;
        return said ? 1 : 2;
    }

    boolean back() {
        if (book.isEmpty()) {
            return false;
        }
        Row last = book.remove(book.size() - 1);
        left = last.before();
        people.get(last.p()).spent = last.spentBefore();
        return true;
    }

    int anew() {
        int rows = 0;
        while (back()) {
            rows++;
        }
        return rows;
    }

    int left(int what) {
        if (what == -1) {
            return left.size();
        }
        return what < 0 || what >= left.size() ? -1 : new ArrayList<>(left).get(what);
    }

    boolean isLeft(int world) {
        return left.contains(world);
    }

    int proved(int f) {
        return isFact(f) ? provedIn(left, f) : -1;
    }

    int tells(int p, int f, int answer) {
        return !isPerson(p) || !isFact(f) || answer < 0 || answer > 2 ? -1 : by(left, p, f, answer).size();
    }

    int paid(int p) {
        return isPerson(p) ? people.get(p).spent : -1;
    }

    int sentence(int p) {
        return isPerson(p) ? sentenceIn(left, p, people.get(p).spent) : -1;
    }

    private boolean isOpenBy(int p, int f) {
        return says(p, f, 0) || says(p, f, 1);
    }

    int open() {
        int bits = 0;
        for (int f = 0; f < factCount; f++) {
            for (int p = 0; p < people.size(); p++) {
                bits |= isOpenBy(p, f) ? 1 << f : 0;
            }
        }
        return bits;
    }

    /** The least number of questions, by asking everyone everything that is open. */
    private int depth(TreeSet<Integer> worlds, int fact, Map<TreeSet<Integer>, Integer> known, int[] first) {
        if (worlds.isEmpty() || provedIn(worlds, fact) != 2) {
            return 0;
        }
        Integer before = known.get(worlds);
        if (before != null && first == null) {
            return before;
        }
        int least = UNPROVABLE;
        for (int f = 0; f < factCount; f++) {
            for (int p = 0; p < people.size(); p++) {
                if (!isOpenBy(p, f)) {
                    continue;
                }
                int worst = 0;
                boolean cuts = true;
                for (int answer = 0; answer < 3; answer++) {
                    if (answer == 2 || says(p, f, answer)) {
                        TreeSet<Integer> rest = by(worlds, p, f, answer);
                        cuts &= rest.size() < worlds.size();
                        worst = cuts ? Math.max(worst, depth(rest, fact, known, null)) : worst;
                    }
                }
                if (cuts && worst + 1 < least) {
                    least = worst + 1;
                    if (first != null) {
                        first[0] = f;
                        first[1] = p;
                    }
                }
            }
        }
        known.put(worlds, least);
        return least;
    }

    int fewest(int fact, int what) {
        if (!isFact(fact) || what < 0 || what > 2 || left.isEmpty()) {
            return -1;
        }
        int[] first = {-3, -3};
        sayings = new HashMap<>();
        int depth = depth(left, fact, new HashMap<>(), first);
        sayings = null;
        if (depth >= UNPROVABLE) {
            return -2;
        }
        return what == 0 ? depth : first[what - 1];
    }

    private boolean provesAhead(int set, int fact) {
        Map<Integer, Integer> values = new HashMap<>();
        for (int w : left) {
            Integer before = values.put(w & set, bit(w, fact));
            if (before != null && before != bit(w, fact)) {
                return false;
            }
        }
        return true;
    }

    int ahead(int fact, int what) {
        if (!isFact(fact) || what < 0 || what > 1 || left.isEmpty()) {
            return -1;
        }
        int open = open();
        for (int size = 0; size <= 10; size++) {
            for (int set = 0; set < 1024; set++) {
                if ((set | open) == open && Integer.bitCount(set) == size && provesAhead(set, fact)) {
                    return what == 0 ? size : set;
                }
            }
        }
        return -2;
    }

    int alike(int fact, int what) {
        if (!isFact(fact) || what < 0 || what > 1) {
            return -1;
        }
        int open = open();
        for (int u : left) {
            for (int w : left) {
                if (bit(u, fact) != bit(w, fact) && (u & open) == (w & open)) {
                    return what == 0 ? u : w;
                }
            }
        }
        return -2;
    }

    int lesser(int p, int f) {
        if (!isPerson(p) || !isFact(f) || bit(people.get(p).known, f) == 0) {
            return -1;
        }
        int[][] harm = people.get(p).harm;
        for (int n = 0; n < harm[f][bit(truth, f)]; n++) {
            for (int g = 0; g < factCount; g++) {
                if (g != f && harm[g][bit(truth, g)] == n && says(p, g, bit(truth, g))) {
                    return g;
                }
            }
        }
        return -2;
    }

    int best(int p, int what) {
        if (!isPerson(p) || what < 0 || what > 1) {
            return -1;
        }
        Person one = people.get(p);
        int least = Integer.MAX_VALUE;
        int best = 0;
        for (int set = 0; set < 1 << factCount; set++) {
            int cost = 0;
            boolean sayable = true;
            TreeSet<Integer> worlds = new TreeSet<>(left);
            for (int f = 0; f < factCount; f++) {
                int fact = f;
                int v = bit(truth, f);
                if (bit(set, f) == 1) {
                    sayable &= says(p, f, v);
                    cost += one.harm[f][v];
                    worlds.removeIf(w -> bit(w, fact) != v);
                } else if (says(p, f, v)) {
                    cost += one.silence;
                }
            }
            cost += sentenceIn(worlds, p, one.spent + cost);
            if (sayable && cost < least) {
                least = cost;
                best = set;
            }
        }
        return what == 0 ? least : best;
    }

    int judge(int n, int what) {
        if (n < 1 || n > 40 || what < 0 || what > 2 || 3 * n > tape.size()) {
            return -3;
        }
        List<Integer> rows = new ArrayList<>(tape.subList(0, 3 * n));
        tape.clear();
        for (int i = 2; i < rows.size(); i += 3) {
            if (rows.get(i) > 2) {
                return -2;
            }
        }
        TreeSet<Integer> worlds = canBe();
        for (int i = 0; i < n; i++) {
            int p = rows.get(3 * i);
            int f = rows.get(3 * i + 1);
            int answer = rows.get(3 * i + 2);
            int why = 0;
            if (!isPerson(p) || !isFact(f)) {
                why = 1;
            } else if (answer != 2 && bit(people.get(p).known, f) == 0) {
                why = 2;
            } else if (answer != 2 && people.get(p).harm[f][answer] == 0) {
                why = 3;
            } else if (answer != 2 && !says(p, f, answer)) {
                why = 4;
            } else if (by(worlds, p, f, answer).isEmpty()) {
                why = 5;
            }
            if (why != 0) {
                return new int[] {i, why, worlds.size()}[what];
            }
            worlds = by(worlds, p, f, answer);
        }
        return new int[] {-1, 0, worlds.size()}[what];
    }

    boolean seed(int n) {
        boolean right = n >= 0 && n < 65536;
        x = right ? n : x;
        return right;
    }

    int draw(int n) {
        if (n < 1 || n > 40 || people.isEmpty()) {
            return -1;
        }
        int silent = 0;
        for (int i = 0; i < n && book.size() < 40; i++) {
            x = (int) ((25173L * x + 13849) % 65536);
            silent += ask(x % people.size(), x / 8 % factCount) == 2 ? 1 : 0;
        }
        return silent;
    }

    /** What a right check tells, as far as a tape can. */
    int[] bookNumbers() {
        int[] numbers = new int[3 * Math.min(18, book.size())];
        for (int i = 0; i < numbers.length; i++) {
            Row row = book.get(i / 3);
            numbers[i] = i % 3 == 0 ? row.p() : i % 3 == 1 ? row.fact() : row.answer();
        }
        return numbers;
    }

    int check(int n) {
        if (n < 0 || 12L * n > tape.size()) {
            return -2;
        }
        List<Integer> due = new ArrayList<>();
        for (Row row : book) {
            due.addAll(Arrays.asList(row.p(), row.fact(), row.answer()));
        }
        List<Integer> told = new ArrayList<>();
        for (int i = 0; i < 12 * n; i += 4) {
            told.add(tape.get(i) << 24 | tape.get(i + 1) << 16 | tape.get(i + 2) << 8 | tape.get(i + 3));
        }
        tape.clear();
        if (told.equals(due)) {
            return -1;
        }
        int same = 0;
        while (same < told.size() && same < due.size() && told.get(same).equals(due.get(same))) {
            same++;
        }
        return same;
    }

    int count(int what) {
        if (what >= 10 && what < 15) {
            return isPerson(what - 10) ? people.get(what - 10).known : -1;
        }
        if (what >= 20 && what < 25) {
            return isPerson(what - 20) ? people.get(what - 20).silence : -1;
        }
        if (what < 0 || what > 7) {
            return -1;
        }
        int clauses = SlowLaw.clausesOf(text).size();
        return new int[] {factCount, people.size(), clauses, tape.size(), book.size(), x, truth,
            provedBits(left, false)}[what];
    }
}
