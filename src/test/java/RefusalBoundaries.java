import java.util.ArrayList;
import java.util.Arrays;
import java.util.List;
import java.util.function.Supplier;
import java.util.function.ToIntFunction;

/** What a refused call leaves as it was, whose memory it is, and how long an object is used. */
final class RefusalBoundaries extends TestCourt {
    private static final int[] WRONG = {LEAST, -1000, -2, -1, 1024, 65536, 1 << 30, MOST};
    private static final String ON_TAPE = "n(b=1);r1(v=0);s9(1=1)";

    private record Refused(String name, int answer, ToIntFunction<OwnHurt> call) { }

    private RefusalBoundaries() { }

    static void run() {
        section("Terms");
        sentence("A call that is refused (NONE, false) changes nothing but the tape, where it is told.");
        refusedIn("a new court", OwnHurt::new);
        refusedIn("a hearing", RefusalBoundaries::hearing);
        refusedIn("a full court", RefusalBoundaries::fullCourt);
        refusedIn("a court with no world left", RefusalBoundaries::noWorldLeft);
        refusedByTape();
        sentence("All memory is the court's own.");
        courtsByTurns();
        newOneBesideFullOne();
        sentence("The constants: There is none.");
        due("NONE", OwnHurt.NONE, -1);
        section("What it is");
        sentence("An object is used for at most 512 calls after it has been made; what later calls answer is free.");
        askedAndTakenBack();
        dearestCalls();
    }

    private static OwnHurt hearing() {
        OwnHurt x = court(3, 5, 9, "n(a=1&b=1);r1(v=1|x=2);s10*m+t(1=1)");
        addPerson(x, 7, 5, 4);
        x.truth(5);
        x.seed(77);
        x.ask(0, 2);
        x.half(1, 0, 2);
        feedText(x, ON_TAPE);
        return x;
    }

    private static OwnHurt fullCourt() {
        OwnHurt x = court(10, 99, 1, "n(a+b+c+d+e+f+g+h+i+j=3);" + "n(a=2);".repeat(11) + "r1(x+p>5);s5*m+t(1=1)");
        for (int p = 1; p < 5; p++) {
            addPerson(x, p, 1023 - 3 * p, 10 * p);
        }
        x.truth(681);
        x.seed(65535);
        x.draw(40);
        feedText(x, ON_TAPE + "#".repeat(220 - ON_TAPE.length()));
        return x;
    }

    private static OwnHurt noWorldLeft() {
        OwnHurt x = court(2, 5, 9, "n(1=1);" + ALL_SAY);
        x.ask(0, 1);
        feedText(x, ON_TAPE);
        return x;
    }

    /** Each refused call is made in one of two like courts, then both must answer alike. */
    private static void refusedIn(String name, Supplier<OwnHurt> maker) {
        int[][] due = new int[4][];
        for (int view = 0; view < 4; view++) {
            due[view] = seen(maker.get(), view);
        }
        for (Refused refused : refusals(maker.get())) {
            for (int view = 0; view < 4; view++) {
                OwnHurt x = maker.get();
                due(refused.name() + " in " + name, refused.call().applyAsInt(x), refused.answer());
                same("behind " + refused.name() + " in " + name, seen(x, view), due[view]);
            }
        }
    }

    private static void same(String when, int[] got, int[] want) {
        int at = Arrays.mismatch(got, want);
        due("number " + at + " " + when, at < 0 ? 0 : got[at], at < 0 ? 0 : want[at]);
    }

    /** All that a court can be asked; by views, as some of them use up what others see. */
    private static int[] seen(OwnHurt x, int view) {
        List<Integer> seen = new ArrayList<>();
        int people = x.count(1);
        int facts = x.count(0);
        if (view == 0) {
            for (int what = 0; what < 25; what++) {
                seen.add(x.count(what));
            }
            seen.addAll(List.of(x.left(-1), x.left(0), x.left(x.left(-1) - 1), x.open()));
            for (int p = 0; p < people; p++) {
                seen.addAll(List.of(x.paid(p), x.sentence(p), x.best(p, 0), x.best(p, 1)));
            }
            for (int f = 0; f < facts; f++) {
                seen.addAll(List.of(x.proved(f), x.ahead(f, 1), x.alike(f, 1), x.fewest(f, 0)));
            }
        } else if (view == 1) {
            for (int i = 0; i < 3 * people * facts; i++) {
                seen.add(x.tells(i / 3 % people, i / 3 / people, i % 3));
                seen.add(x.would(i / 3 % people, i / 3 / people, i % 2));
            }
        } else if (view == 2) {
            seen.add(x.law(ON_TAPE.length()));
            seen.addAll(List.of(x.left(-1), x.count(2), x.count(3), x.draw(3), x.count(5), x.count(4)));
        } else {
            for (int rows = x.count(4); rows > 0; rows--) {
                seen.add(x.back() ? 1 : 0);
                seen.addAll(List.of(x.left(-1), x.left(0), people > 0 ? x.paid(rows % people) : 0));
            }
        }
        return seen.stream().mapToInt(i -> i).toArray();
    }

    private static List<Refused> refusals(OwnHurt like) {
        List<Refused> all = new ArrayList<>();
        setterRefusals(all, like);
        hearingRefusals(all, like);
        tapeRefusals(all, like);
        questionRefusals(all, like);
        return all;
    }

    private static void add(List<Refused> all, String name, ToIntFunction<OwnHurt> call) {
        all.add(new Refused(name, -1, call));
    }

    private static void addFalse(List<Refused> all, String name, java.util.function.Predicate<OwnHurt> call) {
        all.add(new Refused(name, 0, x -> call.test(x) ? 1 : 0));
    }

    private static void setterRefusals(List<Refused> all, OwnHurt like) {
        int facts = like.count(0);
        int people = like.count(1);
        for (int n : new int[] {LEAST, -1, 0, 11, MOST}) {
            add(all, "facts(" + n + ")", x -> x.facts(n));
        }
        for (int world : new int[] {LEAST, -1, 1 << facts, MOST}) {
            addFalse(all, "truth(" + world + ")", x -> x.truth(world));
        }
        for (int silence : new int[] {LEAST, -1, 100, MOST}) {
            add(all, "person(" + silence + ")", x -> x.person(silence));
        }
        if (people == 5) {
            add(all, "a sixth person", x -> x.person(50));
        }
        for (int p : WRONG) {
            addFalse(all, "knows(" + p + ", 5)", x -> x.knows(p, 5));
            addFalse(all, "harm(" + p + ", 0, 1, 5)", x -> x.harm(p, 0, 1, 5));
            addFalse(all, "harm(0, " + p + ", 1, 5)", x -> x.harm(0, p, 1, 5));
            addFalse(all, "harm(0, 0, " + p + ", 5)", x -> x.harm(0, 0, p, 5));
            addFalse(all, "harm(0, 0, 1, " + p + ")", x -> x.harm(0, 0, 1, p));
            addFalse(all, "knows(0, " + p + ")", x -> x.knows(0, p));
        }
        addFalse(all, "knows by nobody", x -> x.knows(people, 5));
        addFalse(all, "harm of nobody", x -> x.harm(people, 0, 1, 5));
        addFalse(all, "harm by fact 10", x -> x.harm(0, 10, 1, 5));
        addFalse(all, "harm of 100", x -> x.harm(0, 0, 1, 100));
        for (int seed : new int[] {LEAST, -1, 65536, MOST}) {
            addFalse(all, "seed(" + seed + ")", x -> x.seed(seed));
        }
    }

    private static void hearingRefusals(List<Refused> all, OwnHurt like) {
        int facts = like.count(0);
        int people = like.count(1);
        for (int wrong : WRONG) {
            add(all, "ask(" + wrong + ", 0)", x -> x.ask(wrong, 0));
            add(all, "ask(0, " + wrong + ")", x -> x.ask(0, wrong));
            add(all, "half(" + wrong + ", 0, 1)", x -> x.half(wrong, 0, 1));
            add(all, "half(0, " + wrong + ", 0)", x -> x.half(0, wrong, 0));
            add(all, "half(0, 0, " + wrong + ")", x -> x.half(0, 0, wrong));
        }
        add(all, "nobody is asked", x -> x.ask(people, 0));
        add(all, "an untold fact is asked", x -> x.ask(0, facts));
        add(all, "an untold fact by halves", x -> x.half(0, 0, facts));
        add(all, "one fact twice", x -> x.half(0, 0, 0));
        if (like.count(4) == 40) {
            all.add(new Refused("ask by a full book", -2, x -> x.ask(0, 0)));
            all.add(new Refused("half by a full book", -2, x -> x.half(0, 0, 1)));
            all.add(new Refused("draw by a full book", 0, x -> x.draw(40)));
        }
        if (like.count(4) == 0) {
            addFalse(all, "back of an empty book", OwnHurt::back);
            all.add(new Refused("anew of an empty book", 0, OwnHurt::anew));
        }
        for (int n : new int[] {LEAST, -1, 0, 41, MOST}) {
            add(all, "draw(" + n + ")", x -> x.draw(n));
        }
        if (people == 0) {
            add(all, "draw with no people", x -> x.draw(1));
        }
    }

    private static void tapeRefusals(List<Refused> all, OwnHurt like) {
        int tape = like.count(3);
        for (int n : new int[] {LEAST, -1, 0, 201, tape + 1, 221, MOST}) {
            if (n < 1 || n > Math.min(200, tape)) {
                add(all, "law(" + n + ")", x -> x.law(n));
            }
        }
        for (int n : new int[] {LEAST, -1, 0, 41, tape / 3 + 1, MOST}) {
            if (n < 1 || n > Math.min(40, tape / 3)) {
                all.add(new Refused("judge(" + n + ", 0)", -3, x -> x.judge(n, 0)));
            }
        }
        for (int what : new int[] {LEAST, -1, 3, MOST}) {
            all.add(new Refused("judge(1, " + what + ")", -3, x -> x.judge(1, what)));
        }
        for (int n : new int[] {LEAST, -1, tape / 12 + 1, 1 << 30, 357913942, MOST}) {
            all.add(new Refused("check(" + n + ")", -2, x -> x.check(n)));
        }
        if (tape > 200) {
            add(all, "feed of a full tape", x -> x.feed(1, 2, 3, 4, 5));
        }
    }

    private static void questionRefusals(List<Refused> all, OwnHurt like) {
        int worlds = like.left(-1);
        for (int wrong : WRONG) {
            add(all, "would(" + wrong + ", 0, 1)", x -> x.would(wrong, 0, 1));
            add(all, "would(0, 0, " + wrong + ")", x -> x.would(0, 0, wrong));
            add(all, "tells(" + wrong + ", 0, 1)", x -> x.tells(wrong, 0, 1));
            add(all, "tells(0, " + wrong + ", 2)", x -> x.tells(0, wrong, 2));
            add(all, "proved(" + wrong + ")", x -> x.proved(wrong));
            add(all, "paid(" + wrong + ")", x -> x.paid(wrong));
            add(all, "sentence(" + wrong + ")", x -> x.sentence(wrong));
            add(all, "fewest(" + wrong + ", 0)", x -> x.fewest(wrong, 0));
            add(all, "fewest(0, " + wrong + ")", x -> x.fewest(0, wrong));
            add(all, "ahead(" + wrong + ", 0)", x -> x.ahead(wrong, 0));
            add(all, "alike(0, " + wrong + ")", x -> x.alike(0, wrong));
            add(all, "lesser(" + wrong + ", 0)", x -> x.lesser(wrong, 0));
            add(all, "best(" + wrong + ", 0)", x -> x.best(wrong, 0));
            add(all, "best(0, " + wrong + ")", x -> x.best(0, wrong));
            add(all, "count(" + wrong + ")", x -> x.count(wrong));
            addFalse(all, "isLeft(" + wrong + ")", x -> x.isLeft(wrong));
        }
        add(all, "left(" + worlds + ")", x -> x.left(worlds));
    }

    /** A text with a fault and a book with a wrong answer use up the tape, and nothing else. */
    private static void refusedByTape() {
        int[] rows = {0, 0, 2, 0, 0, 3};
        String[] faulty = {"?", "n(a=1", "n(a=1)n", "s123456(1=1)", "n(((((((", "n(a=2);".repeat(14) + "n"};
        for (int view = 0; view < 4; view++) {
            OwnHurt due = emptied();
            int[] want = seen(due, view);
            for (String text : faulty) {
                OwnHurt x = emptied();
                due("a fault of " + text, tell(x, text) < -1, true);
                same("behind the fault of " + text, seen(x, view), want);
            }
            OwnHurt y = emptied();
            feedBytes(y, rows);
            due("a wrong answer", y.judge(2, 2), -2);
            same("behind a wrong answer", seen(y, view), want);
        }
    }

    private static OwnHurt emptied() {
        OwnHurt x = hearing();
        x.judge(1, 0);
        return x;
    }

    private static void courtsByTurns() {
        OwnHurt[] courts = {new OwnHurt(), new OwnHurt(), new OwnHurt()};
        String[] laws = {"n(a=1);r1(v=1)", "n(b=1);s7(1=1)", "n(a=b);r1(1=1);s9(1=1)"};
        for (int i = 0; i < 3; i++) {
            courts[i].facts(2 + i);
            addPerson(courts[i], 10 + i, 1023, 1 + i);
        }
        for (int part = 0; part < 2; part++) {
            for (int i = 0; i < 3; i++) {
                String text = laws[i] + "#".repeat(40 - laws[i].length());
                feedText(courts[i], text.substring(20 * part, 20 * part + 20));
            }
        }
        for (int i = 0; i < 3; i++) {
            due("the law of court " + i, courts[i].law(laws[i].length()), i == 2 ? 3 : 2);
        }
        for (int i = 0; i < 3; i++) {
            courts[i].truth(i);
            courts[i].seed(i);
            courts[i].ask(0, 0);
        }
        int[][] want = {{2, 1, 2, 0, 1, 0, 0, 1}, {3, 1, 2, 0, 1, 1, 1, 2}, {4, 1, 3, 0, 1, 2, 2, 3}};
        for (int i = 0; i < 3; i++) {
            for (int what = 0; what < 8; what++) {
                due("count(" + what + ") of court " + i, courts[i].count(what), want[i][what]);
            }
            due("paid in court " + i, courts[i].paid(0), i == 2 ? 3 : 10 + i);
            due("worlds left in court " + i, courts[i].left(-1), i == 0 ? 2 : 4);
            due("sentence in court " + i, courts[i].sentence(0), i == 0 ? 0 : 5 + 2 * i);
        }
    }

    private static void newOneBesideFullOne() {
        int[][] want = new int[4][];
        for (int view = 0; view < 4; view++) {
            want[view] = seen(new OwnHurt(), view);
        }
        for (int view = 0; view < 4; view++) {
            OwnHurt full = fullCourt();
            full.fewest(0, 0);
            full.best(0, 0);
            same("of a new court beside a full one", seen(new OwnHurt(), view), want[view]);
            same("of a full court beside a new one", seen(full, view), seen(fullCourt(), view));
        }
    }

    private static void askedAndTakenBack() {
        OwnHurt x = new OwnHurt();
        x.facts(10);
        x.person(99);
        x.knows(0, 1023);
        x.harm(0, 9, 0, 99);
        feedText(x, ALL_SAY);
        x.law(ALL_SAY.length());
        for (int call = 7; call <= 512; call += 2) {
            due("call " + call, x.ask(0, 9), 0);
            if (call < 511) {
                due("call " + (call + 1), x.back(), true);
            }
        }
        due("the last call", x.left(0), 0);
    }

    private static void dearestCalls() {
        OwnHurt x = court(10, 5, 9, "n(!a=[b+c+d+e+f+g+h+i+j]%2);" + ALL_SAY + ";s999-99*a-90*b-80*[c+d+e+f]-t(1=1)");
        x.knows(0, 1022);
        x.truth(1023 - 512);
        int best = x.best(0, 0);
        for (int call = 0; call < 450; call += 3) {
            due("fewest, once more", x.fewest(0, 0), 9);
            due("ahead, once more", x.ahead(0, 1), 1022);
            due("best, once more", x.best(0, 0), best);
        }
    }
}
