/** The boundary cases of each call, promise by promise. */
final class CallBoundaries extends TestCourt {
    private static final int[] FAR = {LEAST, -1000000, -2, -1, 1024, 65536, 1 << 30, MOST};

    private CallBoundaries() { }

    static void run() {
        newObject();
        facts();
        truth();
        person();
        knows();
        harm();
        feed();
        law();
        lawInPlace();
        would();
        ask();
        half();
        back();
        anew();
        left();
        isLeft();
        proved();
        tells();
        paid();
        sentenceOfPerson();
        open();
        fewest();
        ahead();
        alike();
        lesser();
        best();
        judge();
        judgeWrongly();
        seed();
        draw();
        check();
        count();
    }

    private static OwnHurt withPeople(int people) {
        OwnHurt x = new OwnHurt();
        for (int p = 0; p < people; p++) {
            addPerson(x, 5, 1, 9);
        }
        tell(x, ALL_SAY);
        return x;
    }

    private static void newObject() {
        promise(1);
        sentence("1 FACT, no PEOPLE, LAW;");
        OwnHurt x = new OwnHurt();
        due("facts", x.count(0), 1);
        due("worlds", x.left(-1) * 100 + x.left(0) * 10 + x.left(1), 201);
        due("no third world", x.left(2), -1);
        due("people", x.count(1), 0);
        due("person 0", x.paid(0), -1);
        due("what it knows", x.count(10), -1);
        due("clauses", x.count(2), 0);
        due("the tape", x.count(3), 0);
        due("the book", x.count(4), 0);
        due("nothing to take back", x.back(), false);
        due("the truth", x.count(6), 0);
        due("nothing is proved", x.count(7), 0);
        addPerson(x, 3, 1, 9);
        due("it would say nothing", x.would(0, 0, 1) + x.would(0, 0, 0), 0);
        due("no sentence", x.sentence(0), 0);
        sentence("THE SEED 1.");
        due("X", x.count(5), 1);
        x.draw(1);
        due("the next X", x.count(5), 25173 + 13849);
    }

    private static void facts() {
        promise(2);
        sentence("FACTS: how many WORLDS are LEFT;");
        OwnHurt x = new OwnHurt();
        for (int n = 1; n <= 10; n++) {
            due("facts(" + n + ")", x.facts(n), 1 << n);
            due("so many", x.count(0), n);
            due("worlds", x.left(-1), 1 << n);
            due("the last world", x.left((1 << n) - 1), (1 << n) - 1);
        }
        tell(x, "n(!j=1)");
        due("none of nine", x.facts(9), 0);
        due("half of ten", x.facts(10), 512);
        due("told again", x.facts(10), 512);
        tell(x, "n(1=1)");
        due("none", x.facts(10), 0);
        sentence("NONE: no such number.");
        for (int n : new int[] {LEAST, -10, -1, 0, 11, 12, 42, MOST}) {
            due("facts(" + n + ")", x.facts(n), -1);
            due("still ten", x.count(0), 10);
        }
        sentence("(THE TRUTH loses its higher bits.)");
        OwnHurt y = new OwnHurt();
        y.facts(10);
        y.truth(1023);
        y.facts(10);
        due("none are higher", y.count(6), 1023);
        y.facts(11);
        due("no such number", y.count(6), 1023);
        for (int n = 9; n >= 1; n--) {
            y.facts(n);
            due("of " + n, y.count(6), (1 << n) - 1);
        }
        y.facts(10);
        due("they do not come back", y.count(6), 1);
    }

    private static void truth() {
        promise(3);
        OwnHurt x = new OwnHurt();
        for (int n = 1; n <= 10; n++) {
            x.facts(n);
            int last = (1 << n) - 1;
            sentence("THE TRUTH: true;");
            due("the last of " + n, x.truth(last), true);
            due("it is the truth", x.count(6), last);
            due("the first", x.truth(0), true);
            due("it is the truth", x.count(6), 0);
            x.truth(last);
            sentence("false: no such WORLD (of the told FACTS).");
            for (int world : new int[] {LEAST, -1024, -1, last + 1, last + 2, MOST}) {
                due("truth(" + world + ") of " + n, x.truth(world), false);
                due("the truth stays", x.count(6), last);
            }
        }
        tell(x, "n(1=1)");
        due("one that can't be is such a world", x.truth(5), true);
    }

    private static void person() {
        promise(4);
        OwnHurt x = new OwnHurt();
        sentence("NONE: no such costs, 5 are there.");
        for (int silence : new int[] {LEAST, -1, 100, 101, MOST}) {
            due("person(" + silence + ")", x.person(silence), -1);
            due("nobody is there", x.count(1), 0);
        }
        for (int p = 0; p < 5; p++) {
            sentence("A PERSON: its number;");
            int silence = p % 2 == 0 ? 0 : 99;
            due("person(" + silence + ")", x.person(silence), p);
            due("what silence costs it", x.count(20 + p), silence);
            due("so many are there", x.count(1), p + 1);
            due("it has paid nothing", x.paid(p), 0);
        }
        sentence("NONE: no such costs, 5 are there.");
        for (int silence : new int[] {0, 50, 99, 100, -1}) {
            due("a sixth", x.person(silence), -1);
            due("five are there", x.count(1), 5);
        }
    }

    private static void knows() {
        promise(5);
        sentence("What a PERSON KNOWS (bits of FACTS 0 to 1023): true;");
        OwnHurt x = new OwnHurt();
        for (int p = 0; p < 5; p++) {
            x.person(5);
            due("at first", x.count(10 + p), 0);
            for (int known : new int[] {1023, 512, 1, 0, 682}) {
                due("knows(" + p + ", " + known + ")", x.knows(p, known), true);
                due("in place of what it knew", x.count(10 + p), known);
            }
        }
        sentence("false: no such ones.");
        for (int known : new int[] {LEAST, -1024, -1, 1024, 1025, 2047, MOST}) {
            due("knows(4, " + known + ")", x.knows(4, known), false);
            due("what it knows stays", x.count(14), 682);
        }
        for (int people = 0; people <= 5; people++) {
            OwnHurt y = withPeople(people);
            due("one too many", y.knows(people, 0), false);
            for (int p : FAR) {
                due("person " + p, y.knows(p, 0), false);
            }
        }
    }

    private static void harm() {
        promise(6);
        sentence("HARM: true;");
        OwnHurt x = new OwnHurt();
        x.facts(10);
        for (int p = 0; p < 5; p++) {
            addPerson(x, 50, 1023, 0);
        }
        tell(x, ALL_SAY);
        for (int p = 0; p < 5; p += 4) {
            for (int f = 0; f < 10; f += 9) {
                for (int v = 0; v < 2; v++) {
                    due("none at first", x.would(p, f, v), 0);
                    due("99", x.harm(p, f, v, 99), true);
                    due("heard", x.would(p, f, v), 1);
                    due("1", x.harm(p, f, v, 1), true);
                    due("heard", x.would(p, f, v), 1);
                    due("0", x.harm(p, f, v, 0), true);
                    due("not heard", x.would(p, f, v), 0);
                }
            }
        }
        OwnHurt untold = withPeople(1);
        due("a fact that is not told", untold.harm(0, 9, 1, 7), true);
        untold.facts(10);
        untold.knows(0, 1023);
        due("heard when it is told", untold.would(0, 9, 1), 1);
        sentence("false: no such ones (FACTS 0 to 9).");
        int[] facts = {LEAST, -10, -1, 10, 11, MOST};
        int[] values = {LEAST, -1, 2, 3, MOST};
        int[] costs = {LEAST, -1, 100, 101, MOST};
        for (int wrong : facts) {
            due("fact " + wrong, x.harm(1, wrong, 0, 7), false);
        }
        for (int wrong : values) {
            due("value " + wrong, x.harm(1, 5, wrong, 7), false);
        }
        for (int wrong : costs) {
            due("harm " + wrong, x.harm(1, 5, 1, wrong), false);
        }
        for (int p : new int[] {LEAST, -1, 5, 6, MOST}) {
            due("person " + p, x.harm(p, 0, 0, 7), false);
        }
        for (int p = 0; p < 5; p++) {
            for (int f = 0; f < 10; f++) {
                due("nothing has changed", x.would(p, f, 0) + x.would(p, f, 1), 0);
            }
        }
        for (int people = 0; people < 5; people++) {
            due("one too many", withPeople(people).harm(people, 0, 0, 1), false);
        }
    }

    private static void feed() {
        promise(7);
        sentence("Twenty bytes come behind the tape, the highest of each int first:");
        OwnHurt x = new OwnHurt();
        x.feed(0x6E28613D, 0x32293B6E, 0x28623D32, 0x293B6E28, 0x633D3229);
        x.feed(0x3B6E2861, 0x3D313F3F, 0, 0, 0);
        due("n(a=2);n(b=2);n(c=2);n(a=1 and no )", x.law(40), -1026);
        x.feed(0x6E28613D, 0x32293B6E, 0x28623D32, 0x293B6E28, 0x633D3229);
        x.feed(0x3B6E2861, 0x3D312900, 0, 0, 0);
        due("n(a=2);n(b=2);n(c=2);n(a=1)", x.law(27), 4);
        due("by the last clause", leftBits(x), bits(0));
        x.feed(-1, -1, -1, -1, -1);
        due("a byte 255", x.law(1), -1000);
        addPerson(x, 0, 1, 1);
        x.ask(0, 0);
        x.feed(0, 0, 2, LEAST, MOST);
        due("numbers whose first three are the book's", x.check(1), -1);
        x.feed(LEAST, 0, 2, 0, 0);
        due("a highest bit", x.check(1), 0);
        sentence("how many it has;");
        OwnHurt y = new OwnHurt();
        for (int i = 1; i <= 11; i++) {
            due("feed " + i, y.feed(LEAST, -1, 0, 1, MOST), 20 * i);
            due("so many", y.count(3), 20 * i);
        }
        sentence("NONE if that would be more than 220.");
        due("a twelfth", y.feed(1, 2, 3, 4, 5), -1);
        due("still 220", y.count(3), 220);
        due("the first byte stays", y.law(1), -1000);
        due("it is empty again", y.feed(1, 2, 3, 4, 5), 20);
        OwnHurt z = new OwnHurt();
        feedText(z, "n(" + "a+".repeat(97) + "1=1)" + "#".repeat(20));
        due("220 bytes", z.count(3), 220);
        due("no more", z.feed(0, 0, 0, 0, 0), -1);
        due("what was there is there still", z.law(200), 1);
    }

    private static void law() {
        promise(8);
        sentence("THE LAW by the first n bytes of the tape (1 to 200; empty then), in place of the one before:");
        OwnHurt x = new OwnHurt();
        feedText(x, "n(a=1)");
        due("one byte", x.law(1), -1001);
        due("empty then", x.count(3), 0);
        feedText(x, "n(a=1);;;;");
        due("the first six", x.law(6), 1);
        due("empty then", x.count(3), 0);
        due("by them", leftBits(x), bits(0));
        feedText(x, "n(" + "0+".repeat(97) + "a=0)" + "#".repeat(20));
        due("200 of 220", x.law(200), 1);
        due("empty then", x.count(3), 0);
        due("in place of the one before", leftBits(x), bits(1));
        feedText(x, "n(a=1);n(a=0)" + "#".repeat(7));
        due("twenty of twenty", x.law(20), -1013);
        due("empty then", x.count(3), 0);
        sentence("how many CLAUSES;");
        due("one", tell(x, "n(a=2)"), 1);
        due("it has one", x.count(2), 1);
        due("fourteen", tell(x, "n(a=2);".repeat(13) + "n(a=2)"), 14);
        due("it has fourteen", x.count(2), 14);
        due("two in place of fourteen", tell(x, "r1(1=1);s5(1=1)"), 2);
        due("it has two", x.count(2), 2);
        sentence("a FAULT: -1000 times its number, less its place");
        due("at place 0", tell(x, "?"), -1000);
        due("at place 199", tell(x, "n(" + "1+".repeat(98) + "1?"), -1199);
        due("at the end, place 200", tell(x, "n(" + "1+".repeat(98) + "11"), -1200);
        due("a second fault", tell(x, "n(" + "1+".repeat(96) + "123456"), -2199);
        due("a fourth fault", tell(x, "n(a=2);".repeat(14) + "n"), -4098);
        due("a fifth fault", tell(x, "n(" + "1+".repeat(95) + "[[[[[["), -5197);
    }

    private static void lawInPlace() {
        sentence("(the TEXT before stays, all else, too);");
        OwnHurt x = court(3, 5, 9, "n(a=1&b=1);r1(v=1);s20+m(1=1)");
        x.truth(5);
        x.seed(77);
        x.ask(0, 2);
        x.half(0, 0, 1);
        for (String faulty : new String[] {"?", "n(a=1)?", "n(a=123456)", "n(a=2);".repeat(14) + "n", "n((((((("}) {
            due("a fault", tell(x, faulty) < -1, true);
            due("the tape is empty", x.count(3), 0);
            due("clauses", x.count(2), 3);
            due("the book", x.count(4), 2);
            due("paid", x.paid(0), 18);
            due("worlds left", leftBits(x), bits(5, 6));
            due("would", x.would(0, 0, 1) * 10 + x.would(0, 0, 0), 10);
            due("sentence", x.sentence(0), 21);
            due("the truth, X", x.count(6) * 100 + x.count(5), 577);
        }
        due("all can be taken back", x.anew(), 2);
        due("all that can be by the law before", leftBits(x), bits(0, 1, 2, 4, 5, 6));
        sentence("NONE: no such n, it has not so many (the tape stays).");
        OwnHurt y = new OwnHurt();
        for (int n : new int[] {LEAST, -1, 0, 1, 200, 201, MOST}) {
            due("law(" + n + ") of an empty tape", y.law(n), -1);
        }
        for (int size = 20; size <= 220; size += 20) {
            y.feed(0x6E28613D, 0x31290000, 0, 0, 0);
            for (int n : new int[] {LEAST, -1, 0, Math.min(201, size + 1), 201, 220, 221, MOST}) {
                due("law(" + n + ") of " + size, y.law(n), -1);
                due("the tape stays", y.count(3), size);
            }
        }
        due("no law has been told", y.count(2), 0);
        due("its bytes stay, too", y.law(6), 1);
    }

    /** That a person and a fact must be such, whatever a call does with them. */
    private interface Call {
        int answer(OwnHurt x, int p, int fact);
    }

    private static void noSuchOnes(String name, Call call) {
        for (int people = 0; people <= 5; people++) {
            OwnHurt x = withPeople(people);
            for (int facts = 1; facts <= 10; facts += 3) {
                x.facts(facts);
                due(name + ": one person too many", call.answer(x, people, 0), -1);
                due(name + ": one fact too many", call.answer(x, 0, facts), -1);
                due(name + ": fact 10", call.answer(x, 0, 10), -1);
                for (int wrong : FAR) {
                    due(name + " person " + wrong, call.answer(x, wrong, 0), -1);
                    due(name + " fact " + wrong, call.answer(x, 0, wrong), -1);
                }
            }
            due(name + ": nothing was asked", x.count(4), 0);
        }
    }

    private static void would() {
        promise(9);
        sentence("Whether a PERSON WOULD SAY that a told FACT has a value (1, 0);");
        OwnHurt x = court(10, 5, 1, "r1(x=9&v=1|x=0&v=0)");
        due("the last fact is true", x.would(0, 9, 1), 1);
        due("the last fact is false", x.would(0, 9, 0), 0);
        due("the first fact is true", x.would(0, 0, 1), 0);
        due("the first fact is false", x.would(0, 0, 0), 1);
        sentence("NONE: no such ones.");
        for (int value : new int[] {LEAST, -1, 2, 3, MOST}) {
            due("value " + value, x.would(0, 0, value), -1);
        }
        x.facts(9);
        due("not told any more", x.would(0, 9, 1), -1);
        noSuchOnes("would", (y, p, f) -> y.would(p, f, 1));
        noSuchOnes("would", (y, p, f) -> y.would(p, f, 0));
    }

    private static void ask() {
        promise(10);
        sentence("ASKED: 1 true, 0 false, 2 SILENT;");
        OwnHurt x = court(10, 5, 9, "r1(x>7)");
        x.truth(512);
        due("true", x.ask(0, 9), 1);
        due("false", x.ask(0, 8), 0);
        due("silent", x.ask(0, 0), 2);
        sentence("-2: THE BOOK is full;");
        for (int row = 3; row < 40; row++) {
            due("row " + row, x.ask(0, 9), 1);
        }
        due("one more", x.ask(0, 9), -2);
        due("one more", x.ask(0, 8), -2);
        due("so many", x.count(4), 40);
        due("what was paid", x.paid(0), 39 * 9 + 5);
        due("worlds left", x.left(-1), 256);
        sentence("NONE: no such ones.");
        due("no such person, by a full book", x.ask(1, 0), -1);
        due("no such fact, by a full book", x.ask(0, 10), -1);
        noSuchOnes("ask", OwnHurt::ask);
    }

    private static void half() {
        promise(11);
        sentence("ASKED BY HALVES: 1 it SAYS so, 2 SILENT;");
        OwnHurt x = court(10, 5, 9, "r1(x>7)");
        x.truth(512);
        due("it says so", x.half(0, 8, 9), 1);
        due("it is silent", x.half(0, 0, 9), 2);
        sentence("-2: THE BOOK is full;");
        for (int row = 2; row < 40; row++) {
            due("row " + row, x.half(0, 9, 8), 1);
        }
        due("one more", x.half(0, 8, 9), -2);
        due("one more", x.half(0, 0, 1), -2);
        due("so many", x.count(4), 40);
        due("what was paid", x.paid(0), 39 * 9 + 5);
        sentence("NONE: no such ones, one FACT twice.");
        for (int f = 0; f < 10; f++) {
            due("fact " + f + " twice, by a full book", x.half(0, f, f), -1);
        }
        x.anew();
        for (int f = 0; f < 10; f++) {
            due("fact " + f + " twice", x.half(0, f, f), -1);
        }
        due("no such fact twice", x.half(0, 10, 10), -1);
        due("nothing was asked", x.count(4), 0);
        noSuchOnes("half", (y, p, f) -> y.half(p, f, 0));
        noSuchOnes("half", (y, p, f) -> y.half(p, 0, f));
        OwnHurt z = withPeople(2);
        z.facts(2);
        due("person 2", z.half(2, 0, 1), -1);
        due("person -1", z.half(-1, 0, 1), -1);
    }

    private static void back() {
        promise(12);
        sentence("false: THE BOOK is empty.");
        OwnHurt x = court(2, 5, 9, ALL_SAY);
        due("nothing was asked yet", x.back(), false);
        due("all are left", x.left(-1) * 10 + x.paid(0), 40);
        sentence("TAKEN BACK: true;");
        x.ask(0, 0);
        x.half(0, 0, 1);
        due("the half", x.back(), true);
        due("as ahead of it", leftBits(x) * 100 + x.paid(0), bits(0, 2) * 100 + 9);
        due("the ask", x.back(), true);
        due("as ahead of it", leftBits(x) * 100 + x.paid(0), 15 * 100);
        x.draw(40);
        for (int i = 40; i > 0; i--) {
            due("row " + i, x.back(), true);
            due("rows", x.count(4), i - 1);
        }
        sentence("false: THE BOOK is empty.");
        due("all have been taken back", x.back(), false);
        x.ask(0, 0);
        x.facts(2);
        due("told anew", x.back(), false);
        x.ask(0, 0);
        tell(x, ALL_SAY);
        due("a new law", x.back(), false);
        x.ask(0, 0);
        x.anew();
        due("anew", x.back(), false);
    }

    private static void anew() {
        promise(13);
        sentence("All of THE BOOK taken back: how many.");
        OwnHurt x = court(2, 5, 9, ALL_SAY);
        addPerson(x, 3, 0, 0);
        for (int rows : new int[] {0, 1, 2, 39, 40, 0}) {
            for (int i = 0; i < rows; i++) {
                x.ask(i % 2, i / 2 % 2);
            }
            due("anew of " + rows, x.anew(), rows);
            due("the book", x.count(4), 0);
            due("worlds left", leftBits(x), 15);
            due("paid", x.paid(0) + x.paid(1), 0);
        }
    }

    private static void left() {
        promise(14);
        OwnHurt x = new OwnHurt();
        x.facts(10);
        sentence("WORLDS LEFT, what NONE how many, else the what-th of them (from 0, by numbers);");
        due("all", x.left(OwnHurt.NONE), 1024);
        for (int world : new int[] {0, 1, 63, 64, 127, 128, 511, 512, 1022, 1023}) {
            due("the " + world + "th", x.left(world), world);
        }
        sentence("NONE also: no such one.");
        for (int what : new int[] {LEAST, -1024, -2, 1024, 1025, MOST}) {
            due("left(" + what + ")", x.left(what), -1);
        }
        sentence("WORLDS LEFT, what NONE how many, else the what-th of them (from 0, by numbers);");
        tell(x, "n(!a+f*g*j=2)");
        due("those in which four are true", x.left(-1), 64);
        due("the first", x.left(0), 1 + 32 + 64 + 512);
        due("the second", x.left(1), 3 + 32 + 64 + 512);
        due("the last", x.left(63), 1023);
        sentence("NONE also: no such one.");
        due("the next", x.left(64), -1);
        tell(x, "n(a+b+c+d+e+f+g+h+i+j<10)");
        due("the last world alone", x.left(-1) * 10000 + x.left(0), 11023);
        due("the second", x.left(1), -1);
        tell(x, "n(1=1)");
        due("none: how many", x.left(-1), 0);
        due("none: the first", x.left(0), -1);
        due("none: the second", x.left(1), -1);
    }

    private static void isLeft() {
        promise(15);
        sentence("Whether a WORLD is LEFT.");
        OwnHurt x = new OwnHurt();
        for (int n = 1; n <= 10; n++) {
            x.facts(n);
            int last = (1 << n) - 1;
            due("the first of " + n, x.isLeft(0), true);
            due("the last of " + n, x.isLeft(last), true);
            for (int world : new int[] {LEAST, -1024, -64, -1, last + 1, 1024, 1025, 65536, MOST}) {
                due("isLeft(" + world + ") of " + n, x.isLeft(world), false);
            }
        }
        tell(x, "n(j=1)");
        due("one that can be", x.isLeft(511), true);
        due("one that can't", x.isLeft(512), false);
        tell(x, "n(1=1)");
        due("none is", x.isLeft(0) || x.isLeft(1023), false);
    }

    private static void proved() {
        promise(16);
        OwnHurt x = new OwnHurt();
        x.facts(10);
        for (int f = 0; f < 10; f++) {
            sentence("PROVED: 1 true, 0 false, 2 neither;");
            char letter = (char) ('a' + f);
            due("fact " + f, x.proved(f), 2);
            tell(x, "n(!" + letter + "=1)");
            due("true", x.proved(f), 1);
            tell(x, "n(" + letter + "=1)");
            due("false", x.proved(f), 0);
            due("another one", x.proved((f + 1) % 10), 2);
            tell(x, "n(1=1)");
            due("no world left", x.proved(f), 2);
            tell(x, "n(a=2)");
        }
        sentence("NONE: no such FACT.");
        for (int n = 1; n <= 10; n++) {
            x.facts(n);
            for (int f : new int[] {LEAST, -1, n, 10, MOST}) {
                due("proved(" + f + ") of " + n, x.proved(f), -1);
            }
        }
    }

    private static void tells() {
        promise(17);
        sentence("How many WORLDS would be LEFT by an answer (1, 0, 2) of a PERSON for a FACT (as if it were given);");
        OwnHurt x = court(10, 5, 9, "r1(x=9|x=8&v=1)");
        for (int answer = 0; answer < 3; answer++) {
            due("it says both, answer " + answer, x.tells(0, 9, answer), answer == 2 ? 0 : 512);
            due("it says one, answer " + answer, x.tells(0, 8, answer), 512);
            due("it says neither, answer " + answer, x.tells(0, 0, answer), answer == 2 ? 1024 : 512);
        }
        x.knows(0, 0);
        due("it does not know", x.tells(0, 9, 2), 1024);
        due("as if it knew", x.tells(0, 9, 1), 512);
        due("nothing was given", x.left(-1) + x.count(4) + x.paid(0), 1024);
        tell(x, "n(!j=1)");
        due("all have it", x.tells(0, 9, 1), 512);
        due("none has it", x.tells(0, 9, 0), 0);
        tell(x, "n(1=1)");
        due("none is left", x.tells(0, 9, 2) + x.tells(0, 9, 1) + x.tells(0, 9, 0), 0);
        sentence("NONE: no such ones.");
        for (int answer : new int[] {LEAST, -1, 3, 4, MOST}) {
            due("answer " + answer, x.tells(0, 0, answer), -1);
        }
        for (int answer = 0; answer < 3; answer++) {
            int given = answer;
            noSuchOnes("tells", (y, p, f) -> y.tells(p, f, given));
        }
    }

    private static void paid() {
        promise(18);
        sentence("What a PERSON has paid;");
        for (int silence : new int[] {0, 1, 99}) {
            OwnHurt x = court(1, silence, 99, "");
            x.person(7);
            due("nothing yet", x.paid(0), 0);
            x.draw(1);
            x.anew();
            for (int i = 1; i <= 40; i++) {
                x.ask(0, 0);
                due("silences: " + i, x.paid(0), silence * i);
            }
            x.ask(0, 0);
            due("none by a full book", x.paid(0), silence * 40);
            due("nothing by the other", x.paid(1), 0);
        }
        OwnHurt y = court(1, 1, 99, ALL_SAY);
        y.draw(40);
        due("the most that harms cost", y.paid(0), 3960);
        sentence("NONE: no such one.");
        for (int people = 0; people <= 5; people++) {
            OwnHurt z = withPeople(people);
            due("one too many", z.paid(people), -1);
            due("the last one", z.paid(people - 1), people == 0 ? -1 : 0);
            for (int p : FAR) {
                due("person " + p, z.paid(p), -1);
            }
        }
    }

    private static void sentenceOfPerson() {
        promise(19);
        sentence("THE SENTENCE of a PERSON now;");
        OwnHurt x = court(2, 99, 9, "n(a=b);r1(x=0);s100*a+10*m+t(1=1)");
        due("nothing proved, nothing paid", x.sentence(0), 0);
        x.truth(1);
        x.ask(0, 0);
        due("now", x.sentence(0), 100 + 20 + 9);
        x.back();
        due("and now", x.sentence(0), 0);
        tell(x, "s0-1(1=1)");
        due("the least", x.sentence(0), 0);
        tell(x, "s999+1(1=1)");
        due("the most", x.sentence(0), 999);
        sentence("NONE: no such one.");
        for (int people = 0; people <= 5; people++) {
            OwnHurt z = withPeople(people);
            due("one too many", z.sentence(people), -1);
            due("the last one", z.sentence(people - 1), people == 0 ? -1 : 0);
            for (int p : FAR) {
                due("person " + p, z.sentence(p), -1);
            }
        }
    }

    private static void open() {
        promise(20);
        sentence("OPEN FACTS, as bits.");
        OwnHurt x = court(10, 5, 9, ALL_SAY);
        due("all", x.open(), 1023);
        for (int n = 1; n <= 10; n++) {
            x.facts(n);
            due("the told ones", x.open(), (1 << n) - 1);
        }
        x.knows(0, 512);
        due("the last alone", x.open(), 512);
        x.knows(0, 0);
        due("none", x.open(), 0);
        due("nobody is there", new OwnHurt().open(), 0);
    }

    private static void noSuchQuestions(String name, int whats, Call call) {
        OwnHurt x = court(3, 5, 9, ALL_SAY);
        for (int wrong : new int[] {LEAST, -2, -1, 3, 10, MOST}) {
            due(name + " of fact " + wrong, call.answer(x, wrong, 0), -1);
        }
        for (int wrong : new int[] {LEAST, -2, -1, whats, whats + 1, MOST}) {
            due(name + " what " + wrong, call.answer(x, 0, wrong), -1);
        }
        for (int n = 1; n <= 10; n++) {
            x.facts(n);
            due(name + " of one fact too many", call.answer(x, n, 0), -1);
            due(name + " of the last one", call.answer(x, n - 1, 0) == -1, false);
        }
    }

    private static void fewest() {
        promise(21);
        sentence("FEWEST for a FACT, what 0 how many, 1 the FACT, 2 the PERSON of the first question "
            + "(-3: none needs be);");
        OwnHurt x = court(3, 5, 9, "n(!a=[b+c]%2);" + ALL_SAY);
        addPerson(x, 5, 2, 9);
        x.knows(0, 4);
        due("two", x.fewest(0, 0), 2);
        due("the fact", x.fewest(0, 1), 1);
        due("the person", x.fewest(0, 2), 1);
        tell(x, "n(a=1);" + ALL_SAY);
        due("none", x.fewest(0, 0), 0);
        due("no fact needs be", x.fewest(0, 1), -3);
        due("no person needs be", x.fewest(0, 2), -3);
        x.knows(0, 0);
        x.knows(1, 0);
        due("none, though nothing is open", x.fewest(0, 0), 0);
        due("no fact needs be", x.fewest(0, 1), -3);
        due("nobody is there", provedAlone().fewest(0, 0) * 10 + provedAlone().fewest(0, 2), -3);
        sentence("-2: none prove it;");
        for (int what = 0; what < 3; what++) {
            due("nothing is open, what " + what, x.fewest(1, what), -2);
            due("nobody is there, what " + what, new OwnHurt().fewest(0, what), -2);
        }
        x.knows(0, 5);
        for (int what = 0; what < 3; what++) {
            due("others are open, what " + what, x.fewest(1, what), -2);
        }
        sentence("NONE: no such ones, no WORLD is LEFT.");
        noSuchQuestions("fewest", 3, (y, fact, what) -> y.fewest(fact, what));
        tell(x, "n(1=1);" + ALL_SAY);
        for (int what = 0; what < 3; what++) {
            due("no world is left, what " + what, x.fewest(0, what), -1);
        }
    }

    private static OwnHurt provedAlone() {
        OwnHurt x = new OwnHurt();
        tell(x, "n(a=1)");
        return x;
    }

    private static void ahead() {
        promise(22);
        sentence("TOLD AHEAD for a FACT, what 0 how many, 1 which (bits);");
        OwnHurt x = court(3, 5, 9, "n(!a=[b+c]%2);" + ALL_SAY);
        due("itself", x.ahead(0, 0) * 10 + x.ahead(0, 1), 11);
        x.knows(0, 6);
        due("two", x.ahead(0, 0), 2);
        due("which", x.ahead(0, 1), 6);
        due("none need be", provedAlone().ahead(0, 0), 0);
        due("the empty set", provedAlone().ahead(0, 1), 0);
        sentence("-2: none prove it;");
        x.knows(0, 2);
        due("how many", x.ahead(0, 0), -2);
        due("which", x.ahead(0, 1), -2);
        due("nobody is there", new OwnHurt().ahead(0, 0), -2);
        due("nobody is there", new OwnHurt().ahead(0, 1), -2);
        sentence("NONE: no such ones, no WORLD is LEFT.");
        noSuchQuestions("ahead", 2, (y, fact, what) -> y.ahead(fact, what));
        tell(x, "n(1=1);" + ALL_SAY);
        due("no world is left", x.ahead(0, 0), -1);
        due("no world is left", x.ahead(0, 1), -1);
    }

    private static void alike() {
        promise(23);
        sentence("ALIKE for a FACT, what 0 the least, 1 the other WORLD;");
        OwnHurt x = new OwnHurt();
        due("the least", x.alike(0, 0), 0);
        due("the other", x.alike(0, 1), 1);
        x.facts(10);
        tell(x, "n(a+b+c+d+e+f+g+h+i<9)");
        due("the least", x.alike(9, 0), 511);
        due("the other", x.alike(9, 1), 1023);
        sentence("-2: there are none;");
        due("it is proved", x.alike(0, 0), -2);
        due("it is proved", x.alike(0, 1), -2);
        OwnHurt y = court(1, 5, 9, ALL_SAY);
        due("it is open", y.alike(0, 0), -2);
        due("it is open", y.alike(0, 1), -2);
        tell(y, "n(1=1)");
        due("no world is left", y.alike(0, 0), -2);
        due("no world is left", y.alike(0, 1), -2);
        sentence("NONE: no such ones.");
        noSuchQuestions("alike", 2, (z, fact, what) -> z.alike(fact, what));
        due("no such fact, no world left", y.alike(1, 0), -1);
        due("no such what, no world left", y.alike(0, 2), -1);
    }

    private static void lesser() {
        promise(24);
        sentence("THE LESSER;");
        OwnHurt x = court(10, 5, 9, ALL_SAY);
        x.harm(0, 0, 0, 8);
        due("the first fact", x.lesser(0, 9), 0);
        x.harm(0, 9, 0, 7);
        due("the last fact", x.lesser(0, 0), 9);
        sentence("-2: there is none;");
        due("none is less", x.lesser(0, 9), -2);
        due("one fact", court(1, 5, 9, ALL_SAY).lesser(0, 0), -2);
        x.facts(9);
        due("not one that is not told", x.lesser(0, 0), -2);
        sentence("NONE: no such ones, it does not KNOW the FACT.");
        x.knows(0, 510);
        due("it does not know it", x.lesser(0, 0), -1);
        due("it knows this one, no lesser", x.lesser(0, 8), -2);
        x.knows(0, 1023);
        due("it knows one that is not told", x.lesser(0, 9), -1);
        noSuchOnes("lesser", OwnHurt::lesser);
    }

    private static void best() {
        promise(25);
        sentence("BEST, what 0 what it costs, 1 what is said (bits);");
        OwnHurt x = court(10, 5, 4, ALL_SAY + ";s7(1=1)");
        due("all is said", x.best(0, 0), 47);
        due("all bits", x.best(0, 1), 1023);
        x.facts(9);
        due("not the one that is not told any more", x.best(0, 0), 43);
        due("nor its bit", x.best(0, 1), 511);
        x.facts(10);
        x.knows(0, 512);
        due("the last fact", x.best(0, 0), 11);
        due("its bit", x.best(0, 1), 512);
        x.knows(0, 0);
        due("nothing to say", x.best(0, 0), 7);
        due("no bits", x.best(0, 1), 0);
        tell(x, "s1000(1=1)");
        due("the most a sentence can be", x.best(0, 0), 999);
        sentence("NONE: no such ones.");
        for (int what : new int[] {LEAST, -2, -1, 2, 3, MOST}) {
            due("what " + what, x.best(0, what), -1);
        }
        for (int people = 0; people <= 5; people++) {
            OwnHurt z = withPeople(people);
            for (int what = 0; what < 2; what++) {
                due("one too many", z.best(people, what), -1);
                for (int p : FAR) {
                    due("person " + p, z.best(p, what), -1);
                }
            }
        }
    }

    private static int[] silences(int rows) {
        int[] bytes = new int[3 * rows];
        for (int i = 2; i < bytes.length; i += 3) {
            bytes[i] = 2;
        }
        return bytes;
    }

    private static void judge() {
        promise(26);
        sentence("A BOOK judged by the first 3 n bytes of the tape (n 1 to 40; empty then),");
        OwnHurt x = court(2, 5, 9, "r1(v=1)");
        for (int n : new int[] {1, 2, 39, 40}) {
            int[] bytes = silences(n);
            judged(x, -1, 0, 2, bytes);
            due("empty then", x.count(3), 0);
            bytes[3 * n - 3] = 1;
            judged(x, n - 1, 1, n == 1 ? 4 : 2, bytes);
        }
        int[] much = silences(73);
        much[120] = 99;
        feedBytes(x, much);
        due("220 bytes", x.count(3), 220);
        due("row 40 is not read", x.judge(40, 0), -1);
        due("all are gone", x.count(3), 0);
        feedBytes(x, 0, 0, 2, 9, 9, 2);
        due("row 1 is not read", x.judge(1, 0), -1);
        due("all are gone", x.count(3), 0);
        feedBytes(x, 0, 0, 2, 9, 9, 2);
        due("row 1 is read", x.judge(2, 0), 1);
        sentence("what 0 the first row that can't be (NONE: all can), 1 why (0: all can), "
            + "2 how many WORLDS are left by the rows ahead of it (or by all);");
        judged(x, -1, 0, 1, 0, 0, 1, 0, 1, 1);
        judged(x, -1, 0, 1, 0, 0, 1, 0, 1, 2, 0, 0, 1);
        judged(x, 0, 4, 4, 0, 0, 0, 0, 1, 1);
        judged(x, 1, 5, 2, 0, 0, 1, 0, 0, 2);
        judged(x, 2, 4, 1, 0, 0, 1, 0, 1, 2, 0, 1, 0);
        judged(x, 0, 1, 4, 1, 0, 1, 1, 0, 1);
    }

    private static void judgeWrongly() {
        sentence("-2 for answers above 2 (of any row);");
        OwnHurt x = court(2, 5, 9, "r1(v=1)");
        for (int answer : new int[] {3, 4, 127, 128, 255}) {
            judged(x, -2, -2, -2, 0, 0, answer);
            due("the tape is empty", x.count(3), 0);
            judged(x, -2, -2, -2, 9, 9, 2, 0, 0, 2, 0, 0, answer);
        }
        int[] last = silences(40);
        last[119] = 3;
        judged(x, -2, -2, -2, last);
        feedBytes(x, 0, 0, 2, 0, 0, 3);
        due("of no row that is read", x.judge(1, 0), -1);
        sentence("-3: no such n, no such what, it has not so many (the tape stays).");
        due("an empty tape", x.judge(1, 0), -3);
        feedBytes(x, silences(73));
        for (int n : new int[] {LEAST, -1, 0, 41, 42, 73, 74, MOST, 1 << 30}) {
            due("judge(" + n + ", 0)", x.judge(n, 0), -3);
            due("the tape stays", x.count(3), 220);
        }
        for (int what : new int[] {LEAST, -1, 3, 4, MOST}) {
            due("judge(1, " + what + ")", x.judge(1, what), -3);
            due("the tape stays", x.count(3), 220);
        }
        due("its bytes stay, too", x.judge(40, 2), 2);
        for (int size = 20; size <= 100; size += 20) {
            for (int fed = 0; fed < size; fed += 20) {
                x.feed(2 << 8, 2 << 16, 2 << 24 | 0, 2 << 8, 2 << 16);
            }
            due("one row more than " + size + " bytes have", x.judge(size / 3 + 1, 0), -3);
            due("the tape stays", x.count(3), size);
            due("as many as it has", x.judge(size / 3, 0) == -3, false);
        }
    }

    private static void seed() {
        promise(27);
        OwnHurt x = withPeople(1);
        for (int seed : new int[] {0, 1, 32767, 32768, 65534, 65535}) {
            sentence("THE SEED (0 to 65535; X, too): true;");
            due("seed(" + seed + ")", x.seed(seed), true);
            due("X", x.count(5), seed);
            sentence("false: no such number.");
            for (int wrong : new int[] {LEAST, -65536, -1, 65536, 65537, MOST}) {
                due("seed(" + wrong + ")", x.seed(wrong), false);
                due("X stays", x.count(5), seed);
            }
            sentence("THE SEED (0 to 65535; X, too): true;");
            x.draw(1);
            due("the next X", x.count(5), (int) ((25173L * seed + 13849) % 65536));
        }
    }

    private static void draw() {
        promise(28);
        sentence("DRAWN: how many were SILENT;");
        OwnHurt says = court(1, 5, 9, ALL_SAY);
        due("none of one", says.draw(1), 0);
        due("none of 39", says.draw(39), 0);
        due("the book is full", says.draw(40), 0);
        due("rows", says.count(4), 40);
        OwnHurt silent = court(1, 5, 9, "");
        due("one of one", silent.draw(1), 1);
        due("39 of 40, as then it is full", silent.draw(40), 39);
        due("rows", silent.count(4), 40);
        silent.anew();
        due("40 of 40", silent.draw(40), 40);
        sentence("NONE: no such n, no PEOPLE.");
        silent.anew();
        int at = silent.count(5);
        for (int n : new int[] {LEAST, -40, -1, 0, 41, 42, MOST}) {
            due("draw(" + n + ")", silent.draw(n), -1);
            due("X stays", silent.count(5), at);
            due("the book stays", silent.count(4), 0);
        }
        OwnHurt nobody = new OwnHurt();
        for (int n : new int[] {1, 2, 40}) {
            due("no people, draw(" + n + ")", nobody.draw(n), -1);
            due("X stays", nobody.count(5), 1);
        }
        nobody.person(0);
        due("one is there", nobody.draw(1), 1);
    }

    private static void check() {
        promise(29);
        sentence("CHECK by the first 3 n numbers of the tape (four bytes each; empty then): NONE: right;");
        OwnHurt x = court(1, 5, 9, "");
        due("an empty book, an empty tape", x.check(0), -1);
        x.feed(7, 7, 7, 7, 7);
        due("an empty book", x.check(0), -1);
        due("empty then", x.count(3), 0);
        x.ask(0, 0);
        due("one row", checked(x, 0, 0, 2), -1);
        due("empty then", x.count(3), 0);
        feedNumbers(x, 0, 0, 2, 0, 0, 2, 1, 1, 1, 1);
        due("one row of a longer tape", x.check(1), -1);
        due("empty then", x.count(3), 0);
        x.draw(17);
        int[] rows = new int[54];
        for (int i = 2; i < 54; i += 3) {
            rows[i] = 2;
        }
        due("eighteen rows, the most that a tape has", checked(x, rows), -1);
        sentence("else the place of the first number that is not so (3 n: some are lacking);");
        for (int place = 0; place < 54; place += 53) {
            rows[place]++;
            due("place " + place, checked(x, rows), place);
            rows[place]--;
        }
        for (int n = 0; n < 18; n += 17) {
            feedNumbers(x, rows);
            due("some are lacking behind " + n, x.check(n), 3 * n);
            due("empty then", x.count(3), 0);
        }
        x.draw(22);
        due("the tape has not the half of a full book", checked(x, rows), 54);
        x.anew();
        due("a row too many", checked(x, rows), 0);
        x.ask(0, 0);
        due("rows too many", checked(x, rows), 3);
        sentence("-2: it has not so many (the tape stays).");
        for (int n : new int[] {1, 2, MOST, 1 << 30, 1 << 28, 357913942, -1, LEAST}) {
            due("check(" + n + ") of an empty tape", x.check(n), -2);
        }
        for (int size = 20; size <= 220; size += 20) {
            x.feed(0, 0, 2, 0, 0);
            due("one more than it has", x.check(size / 12 + 1), -2);
            due("far more", x.check(MOST), -2);
            due("three times as many wrap around", x.check(1431655766), -2);
            due("twelve times as many wrap around", x.check(357913942), -2);
            due("the tape stays", x.count(3), size);
        }
        due("its bytes stay, too", x.check(1), -1);
    }

    private static void count() {
        promise(30);
        sentence("0 FACTS, 1 PEOPLE, 2 CLAUSES, 3 bytes of the tape, 4 how many THE BOOK has, 5 X, 6 THE TRUTH, "
            + "7 PROVED FACTS (bits);");
        OwnHurt x = new OwnHurt();
        int[] first = {1, 0, 0, 0, 0, 1, 0, 0};
        for (int i = 0; i < 8; i++) {
            due("count(" + i + ") at first", x.count(i), first[i]);
        }
        x.facts(10);
        for (int p = 0; p < 5; p++) {
            x.person(95 + p);
            x.knows(p, 1023 - p);
        }
        tell(x, "n(a+b+c+d+e+f+g+h+i+j<10);" + "n(a=2);".repeat(12) + "n(a=2)");
        x.truth(1023);
        x.draw(40);
        x.seed(65535);
        for (int i = 0; i < 11; i++) {
            x.feed(0, 0, 0, 0, 0);
        }
        int[] most = {10, 5, 14, 220, 40, 65535, 1023, 1023};
        for (int i = 0; i < 8; i++) {
            due("count(" + i + ") at most", x.count(i), most[i]);
        }
        sentence("10 + p what PERSON p KNOWS, 20 + p what SILENCE costs it.");
        for (int p = 0; p < 5; p++) {
            due("what it knows", x.count(10 + p), 1023 - p);
            due("what its silence costs", x.count(20 + p), 95 + p);
        }
        sentence("NONE for others.");
        for (int what : new int[] {LEAST, -10, -2, -1, 8, 9, 15, 16, 17, 18, 19, 25, 26, 30, 100, MOST}) {
            due("count(" + what + ")", x.count(what), -1);
        }
        for (int people = 0; people < 5; people++) {
            OwnHurt y = withPeople(people);
            for (int p = people; p < 5; p++) {
                due("what nobody knows", y.count(10 + p), -1);
                due("what nobody's silence costs", y.count(20 + p), -1);
            }
        }
    }
}
