import java.util.Random;

/** Random hearings, each call answered by the class and by the slow model alike. */
public final class ModelTest {
    private static final int RUNS = 1200;
    private static final int CALLS = 220;
    private static final int PUZZLES = 600;

    private final Random random;
    private final int run;
    private final OwnHurt fast = new OwnHurt();
    private final SlowCourt slow = new SlowCourt();
    private final int mostFacts;
    private final StringBuilder story = new StringBuilder();
    private static int wrong = 0;

    private ModelTest(int run) {
        this.run = run;
        random = new Random(run);
        mostFacts = run % 40 == 0 ? 10 : 1 + run % 6;
    }

    public static void main(String[] args) {
        for (int run = 0; run < RUNS && wrong == 0; run++) {
            new ModelTest(run).hold();
        }
        for (int run = 0; run < PUZZLES && wrong == 0; run++) {
            new ModelTest(RUNS + run).solvePuzzle();
        }
        System.out.println(wrong == 0 ? "the model agrees" : wrong + " answers differ from the model");
        System.exit(wrong == 0 ? 0 : 1);
    }

    private void hold() {
        if (run % 5 != 4) {
            prepare();
        }
        for (int call = 0; call < CALLS && wrong == 0; call++) {
            call();
        }
    }

    private void due(String call, int got, int want) {
        story.append(call).append(" = ").append(got).append('\n');
        if (got != want) {
            wrong++;
            System.out.println(story);
            System.out.println("run " + run + ": " + call + " answered " + got + ", the model says " + want);
        }
    }

    private void due(String call, boolean got, boolean want) {
        due(call, got ? 1 : 0, want ? 1 : 0);
    }

    private int below(int n) {
        return random.nextInt(n);
    }

    /** Mostly a number from 0 on, now and then one that is just or far beyond. */
    private int about(int n) {
        int kind = below(90);
        return kind == 0 ? -1 : kind == 1 ? n : kind == 2 ? random.nextInt() : below(Math.max(1, n));
    }

    private void prepare() {
        int facts = 1 + below(mostFacts);
        boolean puzzle = run % 2 == 0;
        due("facts " + facts, fast.facts(facts), slow.facts(facts));
        int people = 1 + below(4);
        for (int p = 0; p < people; p++) {
            int silence = below(30);
            due("person " + silence, fast.person(silence), slow.person(silence));
            int known = puzzle ? below(1024) & ~1 | below(1024) & ~1 : below(1024);
            due("knows " + p + " " + known, fast.knows(p, known), slow.knows(p, known));
            for (int i = 0; i < 3 * facts; i++) {
                tellHarm(p);
            }
        }
        tellLaw(puzzle ? RandomLaw.puzzle(random, facts) : RandomLaw.lawful(random));
    }

    /** Nearly all facts are open but the first, which hangs on them. */
    private void solvePuzzle() {
        int facts = 3 + below(5);
        due("facts " + facts, fast.facts(facts), slow.facts(facts));
        for (int p = 0; p < 2; p++) {
            due("person", fast.person(3), slow.person(3));
            int known = below(4) == 0 ? below(1024) : 1022;
            due("knows " + known, fast.knows(p, known), slow.knows(p, known));
            for (int f = 0; f < facts; f++) {
                int v = below(2);
                due("harm " + p + f + v, fast.harm(p, f, v, 5), slow.harm(p, f, v, 5));
                due("harm " + p + f + (1 - v), fast.harm(p, f, 1 - v, v), slow.harm(p, f, 1 - v, v));
            }
        }
        for (int i = 0; i < 3; i++) {
            tellLaw(RandomLaw.choosing(random, facts));
            for (int what = 0; what < 3; what++) {
                due("fewest 0 " + what, fast.fewest(0, what), slow.fewest(0, what));
                due("ahead 0 " + what, fast.ahead(0, what), slow.ahead(0, what));
                due("alike 0 " + what, fast.alike(0, what), slow.alike(0, what));
            }
        }
    }

    private void tellHarm(int p) {
        int fact = about(mostFacts);
        int value = below(2);
        int n = below(4) == 0 ? about(100) : below(20);
        due("harm " + p + " " + fact + " " + value + " " + n,
            fast.harm(p, fact, value, n), slow.harm(p, fact, value, n));
    }

    private void feedBytes(byte[] bytes) {
        for (int i = 0; i < bytes.length; i += 20) {
            int[] five = new int[5];
            for (int j = 0; j < 20; j++) {
                int b = i + j < bytes.length ? bytes[i + j] & 255 : below(256);
                five[j / 4] = five[j / 4] << 8 | b;
            }
            due("feed", fast.feed(five[0], five[1], five[2], five[3], five[4]), slow.feed(five));
        }
    }

    private void tellLaw(String text) {
        feedBytes(text.getBytes(java.nio.charset.StandardCharsets.ISO_8859_1));
        due("law " + text, fast.law(text.length()), slow.law(text.length()));
    }

    private void call() {
        int p = about(slow.count(1));
        int f = below(4) == 0 ? 0 : about(slow.count(0));
        int g = about(slow.count(0));
        int world = about(1 << slow.count(0));
        switch (below(32)) {
            case 0: rareChange(); break;
            case 1: due("truth " + world, fast.truth(world), slow.truth(world)); break;
            case 2: due("would " + p + " " + f, fast.would(p, f, 1), slow.would(p, f, 1)); break;
            case 3: due("would " + p + " " + f + " " + g, fast.would(p, f, g), slow.would(p, f, g)); break;
            case 4: case 5: case 6: due("ask " + p + " " + f, fast.ask(p, f), slow.ask(p, f)); break;
            case 7: due("half " + p + " " + f + " " + g, fast.half(p, f, g), slow.half(p, f, g)); break;
            case 8: case 9: due("back", fast.back(), slow.back()); break;
            case 10: due("left", fast.left(-1), slow.left(-1)); break;
            case 11: due("left " + world, fast.left(world), slow.left(world)); break;
            case 12: due("isLeft " + world, fast.isLeft(world), slow.isLeft(world)); break;
            case 13: due("proved " + f, fast.proved(f), slow.proved(f)); break;
            case 14: { int a = about(3); due("tells " + p + f + a, fast.tells(p, f, a), slow.tells(p, f, a)); break; }
            case 15: due("paid " + p, fast.paid(p), slow.paid(p)); break;
            case 16: due("sentence " + p, fast.sentence(p), slow.sentence(p)); break;
            case 17: due("open", fast.open(), slow.open()); break;
            case 18: case 19: questions(f); break;
            case 20: case 21: { int w = about(2); due("ahead " + f + w, fast.ahead(f, w), slow.ahead(f, w)); break; }
            case 22: { int w = about(2); due("alike " + f + w, fast.alike(f, w), slow.alike(f, w)); break; }
            case 23: due("lesser " + p + " " + f, fast.lesser(p, f), slow.lesser(p, f)); break;
            case 24: { int w = about(2); due("best " + p + w, fast.best(p, w), slow.best(p, w)); break; }
            case 25: judge(); break;
            case 26: check(); break;
            case 27: { int w = about(26); due("count " + w, fast.count(w), slow.count(w)); break; }
            case 28: tellHarm(p); break;
            case 29: { int k = about(1024); due("knows " + p + " " + k, fast.knows(p, k), slow.knows(p, k)); break; }
            case 30: drawSome(); break;
            default: due("count 7", fast.count(7), slow.count(7)); break;
        }
    }

    private void rareChange() {
        switch (below(12)) {
            case 0: { int n = about(mostFacts + 1); due("facts " + n, fast.facts(n), slow.facts(n)); break; }
            case 1: { int n = about(100); due("person " + n, fast.person(n), slow.person(n)); break; }
            case 2: tellLaw(RandomLaw.lawful(random)); break;
            case 7: tellLaw(RandomLaw.puzzle(random, slow.count(0))); break;
            case 3: due("anew", fast.anew(), slow.anew()); break;
            case 4: { int n = about(65536); due("seed " + n, fast.seed(n), slow.seed(n)); break; }
            case 5: due("feed", fast.feed(1, 2, 3, 4, 5), slow.feed(1, 2, 3, 4, 5)); break;
            case 6: { int n = about(201); due("law " + n, fast.law(n), slow.law(n)); break; }
            default: tellLaw(RandomLaw.broken(random)); break;
        }
    }

    /** The slow model tries all questions, which is too much for ten facts of which many are open. */
    private void questions(int fact) {
        if (Integer.bitCount(slow.open()) > 5 && slow.left(-1) > 40) {
            return;
        }
        int what = about(3);
        due("fewest " + fact + " " + what, fast.fewest(fact, what), slow.fewest(fact, what));
    }

    private void drawSome() {
        int n = below(5) == 0 ? about(41) : 1 + below(4);
        due("draw " + n, fast.draw(n), slow.draw(n));
        due("count 5", fast.count(5), slow.count(5));
    }

    private void judge() {
        int rows = 1 + below(below(8) == 0 ? 40 : 4);
        byte[] bytes = new byte[3 * rows];
        for (int i = 0; i < rows; i++) {
            bytes[3 * i] = (byte) about(slow.count(1));
            bytes[3 * i + 1] = (byte) about(slow.count(0));
            bytes[3 * i + 2] = (byte) (below(30) == 0 ? about(4) : below(3));
        }
        feedBytes(bytes);
        int n = below(12) == 0 ? about(42) : rows;
        int what = about(3);
        due("judge " + n + " " + what, fast.judge(n, what), slow.judge(n, what));
    }

    private void check() {
        int rows = Math.min(18, slow.count(4));
        int[] numbers = slow.bookNumbers();
        if (numbers.length > 0 && below(2) == 0) {
            numbers[below(numbers.length)] = about(5);
        }
        byte[] bytes = new byte[12 * rows];
        for (int i = 0; i < bytes.length; i++) {
            bytes[i] = (byte) (numbers[i / 4] >> 24 - i % 4 * 8);
        }
        feedBytes(bytes);
        int n = below(4) == 0 ? about(20) : rows;
        due("check " + n, fast.check(n), slow.check(n));
    }
}
