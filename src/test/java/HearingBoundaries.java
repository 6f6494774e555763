/** The boundary cases of hearings: asked and taken back, what proves a fact, what is best, books and draws. */
final class HearingBoundaries extends TestCourt {
    private static final String CHOOSING = "n(d=0&!a=b|d=1&!a=c);" + ALL_SAY;

    private HearingBoundaries() { }

    static void run() {
        section("Terms");
        asked();
        worldsByAnAnswer();
        halves();
        fullBook();
        takenBack();
        openFacts();
        fewestQuestions();
        firstQuestion();
        toldAhead();
        alikeWorlds();
        lesserHarm();
        bestOfAll();
        bestBySentence();
        judgedRows();
        whyRowsCanNotBe();
        drawnHearings();
        drawnTillFull();
        checkedBooks();
    }

    private static void asked() {
        sentence("ASKED is a PERSON for a FACT: it SAYS the value that THE TRUTH has, if it WOULD SAY that, "
            + "and pays its HARM;");
        OwnHurt x = court(2, 50, 1, ALL_SAY);
        x.truth(2);
        due("false", x.ask(0, 0), 0);
        due("true", x.ask(0, 1), 1);
        due("the least harm, twice", x.paid(0), 2);
        x.harm(0, 1, 1, 99);
        due("true", x.ask(0, 1), 1);
        due("the most harm", x.paid(0), 101);
        OwnHurt y = court(1, 5, 9, "n(a=1);" + ALL_SAY);
        y.truth(1);
        due("a truth that can't be is said, too", y.ask(0, 0), 1);
        due("no world is left by that", y.left(-1), 0);
        due("it says it with no world left, too", y.ask(0, 0) * 100 + y.paid(0), 118);
        sentence("else it is SILENT, and pays what SILENCE costs it.");
        for (int silence : new int[] {0, 1, 99}) {
            OwnHurt z = court(3, silence, 9, "r1(v=1&x<2)");
            z.truth(6);
            due("not of this value", z.ask(0, 0), 2);
            due("not of this fact", z.ask(0, 2), 2);
            z.harm(0, 1, 1, 0);
            due("not heard", z.ask(0, 1), 2);
            z.harm(0, 1, 1, 9);
            z.knows(0, 1021);
            due("not known", z.ask(0, 1), 2);
            due("four silences of " + silence, z.paid(0), 4 * silence);
        }
    }

    private static void worldsByAnAnswer() {
        sentence("WORLDS LEFT: by a SAYING those in which the FACT has that value;");
        OwnHurt x = court(10, 5, 9, ALL_SAY);
        for (int f = 0; f < 10; f++) {
            x.truth(1 << f);
            due("fact " + f + " is true", x.ask(0, f), 1);
            due("half are left", x.left(-1), 512);
            due("the first of them", x.left(0), 1 << f);
            due("the last of them", x.left(511), 1023);
            x.anew();
            x.truth(1023 - (1 << f));
            due("fact " + f + " is false", x.ask(0, f), 0);
            due("half are left", x.left(-1), 512);
            due("the first of them", x.left(0), 0);
            due("the last of them", x.left(511), 1023 - (1 << f));
            x.anew();
        }
        x.ask(0, 9);
        x.truth(512);
        x.ask(0, 9);
        due("both values: none is left", x.left(-1), 0);
        sentence("by a SILENCE those in which it has a value that the PERSON would not say "
            + "(all, if it does not KNOW it).");
        for (int f = 0; f < 2; f++) {
            OwnHurt y = court(2, 5, 9, "r1(v=1)");
            due("silent of what is false", y.ask(0, f), 2);
            due("so it is false", leftBits(y), f == 0 ? bits(0, 2) : bits(0, 1));
            OwnHurt z = court(2, 5, 9, "r1(v=0)");
            z.truth(3);
            due("silent of what is true", z.ask(0, f), 2);
            due("so it is true", leftBits(z), f == 0 ? bits(1, 3) : bits(2, 3));
        }
        OwnHurt none = court(2, 5, 9, "r0(1=1)");
        due("it would say neither", none.ask(0, 0) * 100 + leftBits(none), 215);
        OwnHurt unknown = court(2, 5, 9, ALL_SAY);
        unknown.knows(0, 2);
        due("it does not know it", unknown.ask(0, 0) * 100 + leftBits(unknown), 215);
        due("so that tells nothing", unknown.tells(0, 0, 2), 4);
        due("it would say both", unknown.tells(0, 1, 2), 0);
        unknown.harm(0, 1, 1, 0);
        due("of one value it is not heard", unknown.tells(0, 1, 2), 2);
        due("the other value it says", unknown.ask(0, 1), 0);
        unknown.truth(2);
        unknown.anew();
        due("and this one not", unknown.ask(0, 1), 2);
        due("so it has this one", leftBits(unknown), bits(2, 3));
        OwnHurt next = court(3, 5, 0, ALL_SAY);
        for (int f = 0; f < 3; f++) {
            next.harm(0, f, 0, f == 1 ? 0 : 9);
            next.harm(0, f, 1, f == 1 ? 0 : 9);
        }
        due("what it is heard of beside this fact tells nothing", next.ask(0, 1) * 10 + next.left(-1), 28);
    }

    /** All that halves may hang on: what is true, what is known, what is heard; both ways round. */
    private static void halves() {
        String says = "ASKED BY HALVES for two FACTS: if the PERSON KNOWS both, WOULD SAY of each of them that it is "
            + "true, and at least one is true, it SAYS that at least one is:";
        String goes = "the lesser of the two HARMS is paid, WORLDS in which both are false go;";
        String silent = "else it is SILENT: what SILENCE costs is paid, and, if it KNOWS both and WOULD SAY of each "
            + "that it is true, WORLDS go in which one of them is true.";
        int[] harms = {0, 4, 6, 99};
        for (int i = 0; i < 4 * 4 * 16 * 2; i++) {
            int truth = i % 4;
            int known = i / 4 % 4;
            int one = harms[i / 16 % 4];
            int two = harms[i / 64 % 4];
            int first = i / 256;
            OwnHurt x = court(2, 7, 50, ALL_SAY);
            x.knows(0, known);
            x.harm(0, 0, 1, one);
            x.harm(0, 1, 1, two);
            x.truth(truth);
            boolean would = known == 3 && one > 0 && two > 0;
            boolean said = would && truth > 0;
            sentence(says);
            due("half of truth " + truth + ", known " + known + ", harms " + one + ", " + two,
                x.half(0, first, 1 - first), said ? 1 : 2);
            sentence(said ? goes : silent);
            due("what is paid", x.paid(0), said ? Math.min(one, two) : 7);
            due("what is left", leftBits(x), said ? bits(1, 2, 3) : would ? bits(0) : 15);
        }
        sentence(says);
        OwnHurt x = court(2, 7, 9, "r1(x=0&v=1|x=1&v=0)");
        x.truth(3);
        due("it would say of one alone that it is true", x.half(0, 0, 1) * 100 + leftBits(x), 215);
        OwnHurt y = court(10, 7, 9, ALL_SAY);
        y.truth(512);
        due("the last facts", y.half(0, 9, 8), 1);
        due("worlds left", y.left(-1) * 1000 + y.left(0), 768256);
        sentence(silent);
        y.anew();
        y.truth(255);
        due("the last facts", y.half(0, 8, 9), 2);
        due("worlds left", y.left(-1) * 1000 + y.left(255), 256255);
    }

    private static void fullBook() {
        sentence("THE BOOK: of all that was ASKED (40 at most; then none can be).");
        OwnHurt x = court(2, 1, 1, ALL_SAY);
        for (int i = 0; i < 13; i++) {
            due("ask " + i, x.ask(0, i % 2), 0);
            due("half " + i, x.half(0, 0, 1), 2);
        }
        due("rows", x.count(4), 26);
        x.draw(13);
        due("rows", x.count(4), 39);
        due("the 40th", x.ask(0, 0), 0);
        due("rows", x.count(4), 40);
        due("ask then", x.ask(0, 0), -2);
        due("half then", x.half(0, 0, 1), -2);
        due("draw then", x.draw(1), 0);
        due("rows", x.count(4), 40);
        due("paid", x.paid(0), 40);
        due("one back", x.back(), true);
        due("so one more", x.half(0, 0, 1), 2);
        due("and no more", x.ask(0, 0), -2);
        due("all back", x.anew(), 40);
        due("so one more", x.ask(0, 0), 0);
    }

    private static void takenBack() {
        sentence("TAKEN BACK: the last one of THE BOOK (WORLDS LEFT, what was paid as ahead of it).");
        OwnHurt x = court(5, 3, 2, "n(a+b+c+d+e=3);r1(x+v+p>1)");
        addPerson(x, 4, 29, 5);
        int[][] ahead = new int[40][4];
        for (int row = 0; row < 40; row++) {
            ahead[row] = new int[] {x.left(-1), x.left(0), x.paid(0), x.paid(1)};
            x.truth(row * 7 % 32);
            if (row % 3 == 0) {
                x.half(row % 2, row % 5, (row + 1 + row % 4) % 5);
            } else {
                x.ask(row % 2, row % 5);
            }
        }
        x.knows(0, 0);
        x.harm(1, 2, 1, 99);
        x.truth(0);
        for (int row = 39; row >= 0; row--) {
            due("back", x.back(), true);
            int[] now = {x.left(-1), x.left(0), x.paid(0), x.paid(1)};
            for (int i = 0; i < 4; i++) {
                due("number " + i + " ahead of row " + row, now[i], ahead[row][i]);
            }
        }
        due("rows", x.count(4), 0);
    }

    private static void openFacts() {
        sentence("OPEN is a FACT by a PERSON, if it WOULD SAY just one of its values, or both.");
        due("true alone", court(1, 5, 9, "r1(v=1)").open(), 1);
        due("false alone", court(1, 5, 9, "r1(v=0)").open(), 1);
        due("both", court(1, 5, 9, ALL_SAY).open(), 1);
        due("neither", court(1, 5, 9, "r0(1=1)").open(), 0);
        OwnHurt x = court(10, 5, 0, ALL_SAY);
        due("not heard", x.open(), 0);
        for (int f = 0; f < 10; f++) {
            x.harm(0, f, f % 2, 1);
            due("heard of one value up to fact " + f, x.open(), (2 << f) - 1);
        }
        x.knows(0, 682);
        due("known ones", x.open(), 682);
    }

    private static int parity(int facts) {
        StringBuilder sum = new StringBuilder("b");
        for (int f = 2; f < facts; f++) {
            sum.append('+').append((char) ('a' + f));
        }
        OwnHurt x = court(facts, 5, 9, "n(!a=[" + sum + "]%2);" + ALL_SAY);
        x.knows(0, 1022);
        due("the first of them", x.fewest(0, 1), 1);
        due("all ahead", x.ahead(0, 0), facts - 1);
        due("which", x.ahead(0, 1), (1 << facts) - 2);
        return x.fewest(0, 0);
    }

    private static void fewestQuestions() {
        sentence("FEWEST for a FACT: adaptively (by what was answered before) the fewest questions (of PEOPLE and "
            + "FACTS that are OPEN by them) that always prove it, whatever of WORLDS LEFT is true;");
        for (int facts = 2; facts <= 10; facts++) {
            due("all the others of " + facts, parity(facts), facts - 1);
        }
        OwnHurt x = court(4, 5, 9, CHOOSING);
        due("it is open itself", x.fewest(0, 0), 1);
        x.knows(0, 14);
        due("one chooses the other", x.fewest(0, 0), 2);
        due("ahead all three", x.ahead(0, 0), 3);
        x.truth(8 + 4 + 1);
        due("the truth is not asked", x.fewest(0, 0), 2);
        x.ask(0, 3);
        due("it has been chosen", x.fewest(0, 0), 1);
        due("which", x.fewest(0, 1), 2);
        x.ask(0, 2);
        due("it is proved", x.fewest(0, 0), 0);
        x.anew();
        x.knows(0, 6);
        due("who chooses is not open", x.fewest(0, 0), -2);
        addPerson(x, 1, 8, 3);
        due("it is open by another", x.fewest(0, 0), 2);
        tell(x, "n(!a=b*c);" + ALL_SAY);
        due("one may do, but not always", x.fewest(0, 0), 2);
        OwnHurt either = court(3, 5, 9, "n(!a=b+c-b*c);" + ALL_SAY);
        either.knows(0, 6);
        due("one may do, but not in world 0", either.fewest(0, 0), 2);
        tell(x, "n(!a=b*c);n(b=0&c=1);" + ALL_SAY);
        due("of the worlds left one always does", x.fewest(0, 0), 1);
        due("which", x.fewest(0, 1), 2);
        OwnHurt ten = court(10, 5, 9, "n(i=0&j=0&!a=b|i=1&j=0&!a=c|i=0&j=1&!a=d|i=1&j=1&!a=e);" + ALL_SAY);
        ten.knows(0, 1022);
        due("two choose one of four", ten.fewest(0, 0), 3);
        due("the least of the two", ten.fewest(0, 1), 8);
        due("ahead all six", ten.ahead(0, 1), 768 + 30);
        tell(ten, "n(!j=[a+b]%2);" + ALL_SAY);
        ten.knows(0, 511);
        due("the last by the first two", ten.fewest(9, 0) * 10 + ten.fewest(9, 1), 20);
        tell(ten, ALL_SAY);
        ten.knows(0, 1023);
        for (int f = 0; f < 10; f++) {
            due("each of ten by itself", ten.fewest(f, 0) * 10 + ten.fewest(f, 1), 10 + f);
        }
    }

    private static void firstQuestion() {
        sentence("the first one: the least FACT, then the least PERSON.");
        OwnHurt x = court(4, 5, 9, "n(!a=b);n(!a=c);" + ALL_SAY);
        x.knows(0, 14);
        due("of like ones the least", x.fewest(0, 1), 1);
        x.knows(0, 15);
        due("one below the fact itself", x.fewest(2, 1), 0);
        x.knows(0, 12);
        due("not one that is not open", x.fewest(0, 1), 2);
        due("not one that does not help", x.fewest(3, 1), 3);
        tell(x, CHOOSING);
        x.knows(0, 14);
        due("the one that chooses, though it is not the least", x.fewest(0, 1), 3);
        tell(x, "n(b=0&!a=c|b=1&!a=d);" + ALL_SAY);
        due("the one that chooses is the least", x.fewest(0, 0) * 10 + x.fewest(0, 1), 21);
        tell(x, "n(!a=c*d);n(b=1&c=0&d=1);" + ALL_SAY);
        due("not one that is too much if it is false", x.fewest(0, 0) * 10 + x.fewest(0, 1), 22);
        tell(x, "n(!a=c*d);n(b=0&c=0&d=1);" + ALL_SAY);
        due("not one that is too much if it is true", x.fewest(0, 0) * 10 + x.fewest(0, 1), 22);
        tell(x, "n(d=0&!a=c|d=1&!a=b);n(b+c+d=3);" + ALL_SAY);
        due("not the second, too", x.fewest(0, 0) * 10 + x.fewest(0, 1), 23);
        tell(x, "n(!a=[b+c]%2);n(!a=[b+d]%2);" + ALL_SAY);
        due("of two alike", x.fewest(0, 0) * 10 + x.fewest(0, 1), 21);
        OwnHurt y = new OwnHurt();
        for (int p = 0; p < 5; p++) {
            addPerson(y, 5, 0, 0);
        }
        tell(y, ALL_SAY);
        for (int p = 4; p >= 0; p--) {
            y.knows(p, 1);
            due("person " + p + " knows, but is not heard", y.fewest(0, 2), p == 4 ? -2 : p + 1);
            y.harm(p, 0, p % 2, 1);
            due("person " + p, y.fewest(0, 2), p);
        }
        OwnHurt z = court(2, 5, 9, "n(!a=b);" + ALL_SAY);
        z.knows(0, 2);
        addPerson(z, 5, 1, 9);
        due("the fact comes first", z.fewest(1, 1) * 10 + z.fewest(1, 2), 1);
    }

    private static void toldAhead() {
        sentence("TOLD AHEAD: the least number of OPEN FACTS such that all of them asked always prove it; "
            + "of like ones the least set.");
        OwnHurt x = court(5, 5, 9, "n(!e=[b+c]%2);n(!e=[a+d]%2);" + ALL_SAY);
        due("itself", x.ahead(4, 0) * 100 + x.ahead(4, 1), 116);
        x.knows(0, 15);
        due("two of two sets", x.ahead(4, 0) * 100 + x.ahead(4, 1), 206);
        x.knows(0, 11);
        due("the other set", x.ahead(4, 0) * 100 + x.ahead(4, 1), 209);
        x.knows(0, 3);
        due("no set is open", x.ahead(4, 0), -2);
        x.ask(0, 0);
        due("not by one alone", x.ahead(4, 1), -2);
        tell(x, "n(!a=b);n(!b=c);n(!c=d);n(!d=e);" + ALL_SAY);
        for (int f = 0; f < 5; f++) {
            x.knows(0, 31 & -(1 << f));
            due("the least of like ones, from " + f + " on", x.ahead(0, 1), 1 << f);
        }
        tell(x, "n(a=1);" + ALL_SAY);
        due("proved already: none", x.ahead(0, 0) * 100 + x.ahead(0, 1), 0);
    }

    private static void alike(OwnHurt x, int fact, int least, int other) {
        due("alike of fact " + fact, x.alike(fact, 0), least);
        due("the other", x.alike(fact, 1), other);
    }

    private static void alikeWorlds() {
        sentence("ALIKE are two WORLDS LEFT which differ in the FACT and in no OPEN one: "
            + "the least, then the least such;");
        OwnHurt x = court(3, 5, 9, "n(a+b+c<2);" + ALL_SAY);
        x.knows(0, 1);
        alike(x, 1, 3, 5);
        alike(x, 2, 3, 5);
        alike(x, 0, -2, -2);
        x.knows(0, 0);
        alike(x, 0, 3, 6);
        alike(x, 1, 3, 5);
        x.knows(0, 6);
        alike(x, 0, 6, 7);
        tell(x, "n(a=0&b=0);" + ALL_SAY);
        x.knows(0, 0);
        alike(x, 0, 1, 2);
        alike(x, 1, 1, 2);
        alike(x, 2, 1, 5);
        OwnHurt ten = new OwnHurt();
        ten.facts(10);
        for (int f = 0; f < 10; f++) {
            alike(ten, f, 0, 1 << f);
        }
        tell(ten, "n(!a+b+c+d+e+f+g+h+i+j=9)");
        alike(ten, 0, 511, 1022);
        alike(ten, 9, 511, 767);
        sentence("there are such just if no questions prove it.");
        OwnHurt y = court(4, 5, 9, CHOOSING);
        for (int known = 0; known < 16; known++) {
            y.knows(0, known);
            for (int f = 0; f < 4; f++) {
                boolean such = y.alike(f, 0) >= 0;
                due("none prove fact " + f + ", known " + known, y.fewest(f, 0) == -2, such);
                due("none prove it ahead", y.ahead(f, 0) == -2, such);
            }
        }
    }

    private static void lesserHarm() {
        sentence("THE LESSER for a PERSON, asked for a FACT that it KNOWS: another one that it KNOWS, which by its "
            + "value in THE TRUTH it WOULD SAY, of less HARM than the first one by its value:");
        OwnHurt x = court(2, 5, 9, "r1(!x=v)");
        x.truth(1);
        x.harm(0, 0, 1, 9);
        x.harm(0, 1, 0, 9);
        due("like harm is not less", x.lesser(0, 0), -2);
        x.harm(0, 1, 0, 8);
        due("less by one", x.lesser(0, 0), 1);
        x.truth(3);
        due("not by its value now", x.lesser(0, 0), -2);
        x.truth(1);
        x.harm(0, 1, 0, 1);
        due("the least there is", x.lesser(0, 0), 1);
        x.harm(0, 1, 0, 0);
        due("none at all is not heard", x.lesser(0, 0), -2);
        x.harm(0, 1, 0, 8);
        x.knows(0, 1);
        due("it does not know another", x.lesser(0, 0), -2);
        x.knows(0, 3);
        x.harm(0, 0, 1, 0);
        due("nothing is less than none", x.lesser(0, 0), -2);
        x.harm(0, 0, 1, 99);
        x.harm(0, 1, 0, 98);
        due("the most", x.lesser(0, 0), 1);
        due("not itself", x.lesser(0, 1), -2);
        x.harm(0, 0, 1, 1);
        due("for one that it would not say", court(1, 5, 9, "").lesser(0, 0), -2);
        due("it need not say the first one", x.lesser(0, 1), 0);
        sentence("the one of least HARM; of like ones the lowest FACT.");
        OwnHurt y = court(10, 5, 9, ALL_SAY);
        y.harm(0, 9, 0, 8);
        due("the last fact", y.lesser(0, 0), 9);
        y.harm(0, 4, 0, 8);
        due("of like ones the lowest", y.lesser(0, 0), 4);
        y.harm(0, 6, 0, 7);
        due("the least", y.lesser(0, 0), 6);
        due("for the lowest, too", y.lesser(0, 4), 6);
        y.harm(0, 0, 0, 7);
        due("of like ones the lowest", y.lesser(0, 4), 0);
        due("not one of like harm", y.lesser(0, 6), -2);
    }

    private static void best(OwnHurt x, int cost, int set) {
        due("what is best costs", x.best(0, 0), cost);
        due("what is said", x.best(0, 1), set);
    }

    private static void bestOfAll() {
        sentence("BEST for a PERSON: of all FACTS that it KNOWS and WOULD SAY (by THE TRUTH) some are said and pay "
            + "their HARM, each other one of these pays SILENCE;");
        best(court(3, 5, 9, "r1(x<2)"), 10, 0);
        best(court(3, 5, 4, "r1(x<2)"), 8, 3);
        best(court(3, 5, 4, "r0(1=1)"), 0, 0);
        best(court(10, 99, 1, ALL_SAY), 10, 1023);
        best(court(10, 1, 99, ALL_SAY), 10, 0);
        best(court(10, 99, 99, ALL_SAY), 990, 0);
        best(court(10, 0, 1, ALL_SAY), 0, 0);
        OwnHurt x = court(3, 5, 4, "r1(v=1)");
        best(x, 0, 0);
        x.truth(5);
        best(x, 8, 5);
        x.knows(0, 6);
        best(x, 4, 4);
        x.harm(0, 2, 1, 0);
        best(x, 0, 0);
        OwnHurt other = court(2, 5, 9, "r1(x=1);s500-400*a(1=1)");
        other.truth(3);
        best(other, 505, 0);
        tell(other, ALL_SAY + ";s500-400*a(1=1)");
        best(other, 9 + 5 + 100, 1);
        other.knows(0, 2);
        best(other, 505, 0);
        sentence("WORLDS LEFT are those of now in which what is said is so;");
        OwnHurt y = court(2, 5, 9, ALL_SAY + ";s100-40*a-30*b+m(1=1)");
        y.truth(3);
        best(y, 18 + 32, 3);
        y.truth(2);
        best(y, 9 + 5 + 71, 2);
        y.truth(1);
        y.ask(0, 0);
        best(y, 10 + 61, 0);
        tell(y, "n(a=1&b=1);" + ALL_SAY + ";s200-20*m-50*a(1=1)");
        y.truth(3);
        best(y, 14 + 200 - 40 - 50, 1);
        tell(y, "n(1=1);" + ALL_SAY + ";s200-20*m-50*a(1=1)");
        best(y, 10 + 200, 0);
    }

    private static void bestBySentence() {
        sentence("then THE SENTENCE (t with what is paid by this), all together least;");
        OwnHurt x = court(2, 5, 9, "r1(x<1);s20+t(1=1)");
        best(x, 5 + 25, 0);
        x.ask(0, 1);
        best(x, 5 + 30, 0);
        due("nothing is paid by that", x.paid(0), 5);
        tell(x, "r1(x<1);s900+100*t(1=1)");
        best(x, 5 + 999, 0);
        tell(x, "r1(x<1);s0-t(1=1)");
        best(x, 5, 0);
        tell(x, "r1(1=1);s500*[1-t/18](1=1)");
        best(x, 18, 3);
        tell(x, "r1(1=1);s500*[1-t/14](1=1)");
        best(x, 14, 1);
        tell(x, "r1(1=1);s4*[1-t/14](1=1)");
        best(x, 10 + 4, 0);
        tell(x, "r1(1=1);s5*[1-t/14](1=1)");
        best(x, 14, 1);
        sentence("of like ones the least set.");
        OwnHurt y = court(4, 5, 9, ALL_SAY + ";s200-50*[b*c+a*d-a*b*c*d](1=1)");
        y.truth(15);
        best(y, 20 + 8 + 150, 6);
        tell(y, ALL_SAY + ";s100-10*[a+d-a*d](1=1)");
        best(y, 20 + 4 + 90, 1);
        tell(y, ALL_SAY + ";s100-8*a*b(1=1)");
        best(y, 120, 0);
        tell(y, ALL_SAY + ";s100-9*a*b(1=1)");
        best(y, 20 + 8 + 91, 3);
        sentence("(Silences tell nothing here.)");
        OwnHurt z = court(1, 5, 9, "r1(v=1);s100*m(1=1)");
        z.truth(1);
        best(z, 5, 0);
        tell(z, "r1(v=1);s100-100*m(1=1)");
        best(z, 9, 1);
    }

    private static void judgedRows() {
        sentence("A BOOK is judged: rows of a PERSON, a FACT, an answer (1 true, 0 false, 2 SILENT), one behind the "
            + "other from all that can be on (THE TRUTH not asked):");
        OwnHurt x = court(2, 5, 9, "n(a=1&b=1);" + ALL_SAY);
        x.ask(0, 0);
        x.ask(0, 1);
        due("left by what was asked", x.left(-1), 1);
        judged(x, -1, 0, 1, 0, 0, 1);
        judged(x, -1, 0, 2, 0, 0, 0);
        judged(x, -1, 0, 1, 0, 0, 0, 0, 1, 0);
        judged(x, 1, 5, 1, 0, 0, 1, 0, 1, 1);
        judged(x, 0, 5, 3, 0, 0, 2);
        x.knows(0, 0);
        judged(x, -1, 0, 3, 0, 0, 2);
        due("what was asked stays", x.left(-1) * 10 + x.count(4), 12);
        due("what was paid stays", x.paid(0), 18);
    }

    private static void whyRowsCanNotBe() {
        sentence("the first that can't be: 1 no such PERSON or FACT, 2 it does not KNOW what it SAYS, 3 what it SAYS "
            + "is not heard, 4 it would not SAY it, 5 no WORLD is left by it (the first of these).");
        OwnHurt x = court(3, 5, 9, "n(a=1&b=1);r1(v=1)");
        judged(x, 0, 1, 6, 1, 0, 0);
        judged(x, 0, 1, 6, 255, 0, 2);
        judged(x, 0, 1, 6, 0, 3, 1);
        judged(x, 0, 1, 6, 0, 255, 2);
        judged(x, 0, 4, 6, 0, 0, 0);
        x.harm(0, 0, 0, 0);
        judged(x, 0, 3, 6, 0, 0, 0);
        x.harm(0, 0, 0, 1);
        judged(x, 0, 4, 6, 0, 0, 0);
        x.harm(0, 0, 1, 1);
        judged(x, -1, 0, 2, 0, 0, 1);
        x.harm(0, 0, 0, 0);
        x.knows(0, 6);
        judged(x, 0, 2, 6, 0, 0, 0);
        judged(x, 0, 2, 6, 0, 0, 1);
        judged(x, -1, 0, 6, 0, 0, 2);
        x.knows(0, 7);
        judged(x, 1, 5, 2, 0, 0, 1, 0, 1, 1);
        judged(x, 1, 4, 2, 0, 0, 1, 0, 1, 0);
        judged(x, 2, 5, 2, 0, 0, 1, 0, 1, 2, 0, 0, 2);
        judged(x, 1, 1, 2, 0, 0, 1, 9, 0, 2, 0, 1, 1);
        tell(x, "n(1=1);r1(v=1)");
        judged(x, 0, 5, 0, 0, 0, 1);
        judged(x, 0, 5, 0, 0, 0, 2);
        judged(x, 0, 4, 0, 0, 1, 0);
        judged(x, 0, 1, 0, 1, 0, 2);
    }

    private static int next(int x) {
        return (int) ((25173L * x + 13849) % 65536);
    }

    private static void drawnHearings() {
        sentence("DRAWN: n times (1 to 40): X = (25173 X + 13849) modulo 65536 (X is THE SEED at first, 1): PERSON X "
            + "modulo how many there are is ASKED for FACT X / 8 modulo how many FACTS there are;");
        due("X at first", new OwnHurt().count(5), 1);
        for (int seed : new int[] {1, 0, 65535, 32768, 40000}) {
            OwnHurt x = new OwnHurt();
            x.facts(3);
            for (int p = 0; p < 3; p++) {
                x.person(p + 1);
                x.knows(p, 7);
                x.harm(p, p, 0, 20);
            }
            tell(x, ALL_SAY);
            due("seed", x.seed(seed), true);
            int[] rows = new int[54];
            int at = seed;
            int silent = 0;
            for (int i = 0; i < 18; i++) {
                at = next(at);
                rows[3 * i] = at % 3;
                rows[3 * i + 1] = at / 8 % 3;
                // Each is heard of one fact alone, that it is false.
                boolean says = at % 3 == at / 8 % 3;
                rows[3 * i + 2] = says ? 0 : 2;
                silent += says ? 0 : 1;
            }
            due("silent ones", x.draw(1) + x.draw(17), silent);
            due("X", x.count(5), at);
            due("the rows", checked(x, rows), -1);
        }
    }

    private static void drawnTillFull() {
        sentence("till THE BOOK is full (X does not go on then).");
        for (int ahead = 36; ahead <= 40; ahead++) {
            OwnHurt x = court(2, 1, 1, "r0(1=1)");
            for (int i = 0; i < ahead; i++) {
                x.ask(0, 0);
            }
            int at = 1;
            for (int i = ahead; i < 40; i++) {
                at = next(at);
            }
            due("silent ones behind " + ahead + " rows", x.draw(40), 40 - ahead);
            due("rows", x.count(4), 40);
            due("X", x.count(5), at);
            due("once more", x.draw(1), 0);
            due("X", x.count(5), at);
            x.back();
            due("one goes again", x.draw(2), 1);
            due("X", x.count(5), next(at));
        }
        OwnHurt y = court(2, 1, 1, "r0(1=1)");
        due("all forty", y.draw(40), 40);
        due("the most is paid", y.paid(0), 40);
    }

    private static void checkedBooks() {
        sentence("CHECK of THE BOOK: threes of numbers: a PERSON, a FACT, an answer (BY HALVES: the first FACT, "
            + "3 or 4: it said so, it was SILENT): right, or the first number that is not so.");
        OwnHurt x = court(3, 5, 9, "r1(v=1&x<2)");
        x.person(1);
        x.truth(1);
        x.ask(0, 0);
        x.half(0, 1, 0);
        x.half(0, 0, 1);
        x.half(0, 2, 1);
        x.ask(1, 2);
        int[] right = {0, 0, 1, 0, 1, 3, 0, 0, 3, 0, 2, 4, 1, 2, 2};
        due("right", checked(x, right), -1);
        for (int i = 0; i < right.length; i++) {
            for (int other : new int[] {right[i] + 1, right[i] - 1, right[i] + 256, right[i] ^ LEAST}) {
                int[] numbers = right.clone();
                numbers[i] = other;
                due("number " + i + " is " + other, checked(x, numbers), i);
            }
        }
        int[] two = right.clone();
        two[4] = 2;
        two[11] = 3;
        due("the first of two", checked(x, two), 4);
    }
}
