/** The boundary cases of THE LAW: its text, how it is reckoned, its faults. */
final class LawBoundaries extends TestCourt {
    private static final String LETTERS = "abcdefghijpxvyzkwmt";
    private static final String DIGITS = "0123456789";
    private static final String JOINING = "+-*/%";
    private static final String NEVER = "n(a=2)";
    /** The least number of 32 bits, as an E. */
    private static final String LEAST_E = "[32768*65536]";

    private LawBoundaries() { }

    static void run() {
        section("Terms");
        factsAndWorlds();
        textAndClauses();
        worldsThatCanNotBe();
        sayings();
        sentences();
        conditions();
        expressions();
        letters();
        thirtyTwoBits();
        longTexts();
        dividedByZero();
        askedAsFarAsItMatters();
        whatCanNotStand();
        theEnd();
        sixthDigit();
        fifteenthClause();
        seventhOpen();
        openTillItsPieceEnds();
        firstFaultFromTheLeft();
        worldsLeft();
        provedFacts();
    }

    private static void factsAndWorlds() {
        sentence("FACTS 0 to 9 (1 to 10 of them are told; 1 at first): each is true (1) or false (0).");
        OwnHurt x = new OwnHurt();
        due("one at first", x.count(0), 1);
        due("fact 0", x.proved(0), 2);
        due("fact 1 is not told", x.proved(1), -1);
        x.facts(10);
        due("fact 9", x.proved(9), 2);
        due("fact 10", x.proved(10), -1);
        sentence("A WORLD: a number of bits, bit f whether FACT f is true.");
        for (int f = 0; f < 10; f++) {
            tell(x, "n(!" + (char) ('a' + f) + "=1);n(a+b+c+d+e+f+g+h+i+j>1)");
            due("fact " + f + " alone", x.left(-1) == 1 ? x.left(0) : -1, 1 << f);
        }
        sentence("THE TRUTH is one (0 at first).");
        due("at first", new OwnHurt().count(6), 0);
        due("by it fact 0 is false", court(1, 1, 1, ALL_SAY).ask(0, 0), 0);
        sentence("PEOPLE 0 to 4: each KNOWS some FACTS, a SILENCE costs it so much (0 to 99).");
        OwnHurt y = new OwnHurt();
        int[] silences = {0, 99, 1, 98, 50};
        for (int p = 0; p < 5; p++) {
            due("person " + p, y.person(silences[p]), p);
            due("what it knows at first", y.count(10 + p), 0);
        }
        for (int p = 0; p < 5; p++) {
            due("person " + p + " is silent", y.ask(p, 0), 2);
            due("what that costs person " + p, y.paid(p), silences[p]);
        }
        due("person 5", y.ask(5, 0), -1);
        sentence("HARM of a PERSON by a FACT and a value (1, 0): 0 to 99; 0 at first.");
        OwnHurt z = new OwnHurt();
        z.person(7);
        z.knows(0, 1);
        tell(z, ALL_SAY);
        due("0 at first, so it is silent", z.ask(0, 0) * 10 + z.paid(0), 27);
        z.harm(0, 0, 0, 99);
        due("99 by the value 0", z.ask(0, 0) * 1000 + z.paid(0), 106);
        z.truth(1);
        z.harm(0, 0, 1, 1);
        due("1 by the value 1", z.ask(0, 0) * 1000 + z.paid(0), 1107);
    }

    private static void textAndClauses() {
        sentence("THE LAW: a TEXT of at most 200 bytes, no blanks (none at first): "
            + "CLAUSES (14 at most) with a ; (59) between two:");
        due("none at first", new OwnHurt().count(2), 0);
        String end = "=9)";
        String most = "s5(" + "9".repeat(5) + "*0".repeat(90) + "+9" + end + ";n(a=1)";
        OwnHurt x = new OwnHurt();
        x.person(0);
        due("the length of a text", most.length(), 200);
        due("200 bytes", tell(x, most), 2);
        due("they are read to the end", x.left(-1) * 10 + x.sentence(0), 15);
        feedText(x, most + " ");
        due("201 bytes", x.law(201), -1);
        String text = "r12+a*[b-3](!(c<4)&d>5|e=6);s7(1=1)";
        for (int i = 0; i <= text.length(); i++) {
            for (String blank : new String[] {" ", "\t", "\n"}) {
                read(text.substring(0, i) + blank + text.substring(i), -1000 - i);
            }
        }
        for (int n = 1; n <= 14; n++) {
            read((NEVER + ";").repeat(n - 1) + NEVER, n);
            OwnHurt y = new OwnHurt();
            tell(y, (NEVER + ";").repeat(n - 1) + "n(a=1)");
            due("clause " + n + " is one of the law", y.left(-1) * 100 + y.count(2), 100 + n);
        }
        due("a byte 59", new String(new char[] {59}).equals(";"), true);
        read(";" + NEVER, -1000);
        read(NEVER + ";", -1007);
        read(NEVER + ";;" + NEVER, -1007);
        read(NEVER + NEVER, -1006);
        read(NEVER + ":" + NEVER, -1006);
    }

    private static void leftBy(String text, int... worlds) {
        OwnHurt x = new OwnHurt();
        x.facts(2);
        tell(x, text);
        due("worlds left by " + text, leftBits(x), bits(worlds));
    }

    private static void worldsThatCanNotBe() {
        sentence("n and (C): a WORLD for which it holds can't be (any n will do);");
        leftBy("n(a=1)", 0, 2);
        leftBy("n(a=1);n(b=1)", 0);
        leftBy("n(a=1);n(a=0)");
        leftBy("n(1=2);n(2=3);n(a+b=2)", 0, 1, 2);
        leftBy("n(a=1);n(a=1)", 0, 2);
        leftBy("r1(a=1);s1(a=1)", 0, 1, 2, 3);
    }

    private static int would(String text) {
        return court(1, 0, 5, text).would(0, 0, 1);
    }

    private static void sayings() {
        sentence("r, E and (C): a PERSON would say a FACT of a value, if it is above 0 (0 to 99);");
        String[] above = {"1", "99", "100", "99999", "[32768*65536-1]"};
        String[] notAbove = {"0", "0-1", "0-99999", "32768*65536", "65536*65536"};
        for (String e : above) {
            due("r" + e, would("r" + e + "(1=1)"), 1);
        }
        for (String e : notAbove) {
            due("r" + e, would("r" + e + "(1=1)"), 0);
        }
        due("no law", court(1, 0, 5, "").would(0, 0, 1), 0);
        due("no r", would("s1(1=1);n(a=2)"), 0);
    }

    private static int reckoned(String e) {
        return court(2, 5, 7, "s" + e + "(1=1)").sentence(0);
    }

    private static int sentenceBy(String text) {
        return court(1, 0, 0, text).sentence(0);
    }

    private static void sentences() {
        sentence("s, E and (C): THE SENTENCE of a PERSON (0 to 999);");
        String[] es = {"0", "1", "998", "999", "1000", "99999", "0-1", "32768*65536", "[32768*65536]-1"};
        int[] due = {0, 1, 998, 999, 999, 999, 0, 0, 999};
        for (int i = 0; i < es.length; i++) {
            due("s" + es[i], reckoned(es[i]), due[i]);
        }
        sentence("of r, s the E of the first CLAUSE whose C holds (beyond its bounds the bound; none: 0).");
        due("the second s", sentenceBy("s5(1=2);s6(1=1);s7(1=1)"), 6);
        due("the last of 14", sentenceBy("s5(1=2);".repeat(13) + "s6(1=1)"), 6);
        due("one of 0 is one", sentenceBy("s0(1=1);s7(1=1)"), 0);
        due("one below 0 is one", sentenceBy("s0-5(1=1);s7(1=1)"), 0);
        due("one above the bound is one", sentenceBy("s1000(1=1);s7(1=1)"), 999);
        due("not an r, not an n", sentenceBy("r5(1=1);n(1=1);s7(1=1)"), 7);
        due("none holds", sentenceBy("s5(1=2);s6(2=3)"), 0);
        due("none is there", sentenceBy("r5(1=1)"), 0);
        due("the first r", would("r0(1=1);r5(1=1)"), 0);
        due("the second r", would("r0(1=2);r5(1=1)"), 1);
        due("below its bound the bound", would("r0-5(1=1);r5(1=1)"), 0);
        due("not an s, not an n", would("s0(1=1);n(a=0);r5(1=1)"), 1);
        due("none holds", would("r5(1=2)"), 0);
    }

    private static void conditions() {
        sentence("C: PARTS with a | between two, one of which must hold;");
        leftBy("n(a=1|b=1)", 0);
        leftBy("n(a=1|1=2|b=1)", 0);
        leftBy("n(1=2|2=3)", 0, 1, 2, 3);
        leftBy("n(a+b=0|a+b=2|1=2)", 1, 2);
        sentence("a PART: PIECES with an & between two, all of which must;");
        leftBy("n(a=1&b=1)", 0, 1, 2);
        leftBy("n(1=1&a=1&1=1)", 0, 2);
        leftBy("n(a=0&b=0&1=2)", 0, 1, 2, 3);
        leftBy("n(a=1|b=1&1=2)", 0, 2);
        leftBy("n(1=2&a=1|b=1)", 0, 1);
        sentence("a PIECE: !PIECE, (C), or E, one of < > =, and E.");
        leftBy("n(!a=1)", 1, 3);
        leftBy("n(!!a=1)", 0, 2);
        leftBy("n(!a=1&b=1)", 0, 1, 3);
        leftBy("n((a=1|b=1)&a=b)", 0, 1, 2);
        leftBy("n(!(a=1|b=1))", 1, 2, 3);
        leftBy("n(a<b)", 0, 1, 3);
        leftBy("n(a>b)", 0, 2, 3);
        leftBy("n(a=b)", 1, 2);
    }

    private static void expressions() {
        sentence("E: TERMS with + or - between two; a TERM: FACTORS with one of * / % between two; from the left on;");
        due("10-3-2", reckoned("10-3-2"), 5);
        due("10-3+2", reckoned("10-3+2"), 9);
        due("2+3*4", reckoned("2+3*4"), 14);
        due("20-2*3-1", reckoned("20-2*3-1"), 13);
        due("100/10/5", reckoned("100/10/5"), 2);
        due("7*3/2", reckoned("7*3/2"), 10);
        due("7/2*3", reckoned("7/2*3"), 9);
        due("17%10*3", reckoned("17%10*3"), 21);
        due("3*17%10", reckoned("3*17%10"), 1);
        sentence("a FACTOR: [E], a number of one to five digits, or a letter:");
        due("[2+3]*4", reckoned("[2+3]*4"), 20);
        due("20-[2*[3-1]]", reckoned("20-[2*[3-1]]"), 16);
        for (String number : new String[] {"7", "07", "007", "0007", "00007"}) {
            due(number, reckoned(number), 7);
        }
        due("all five digits", reckoned("98765-98000"), 765);
        due("the most", reckoned("99999-99000"), 999);
        due("00000", reckoned("00000+3"), 3);
        for (char c = 'a'; c <= 'z'; c++) {
            read("n(" + c + "=1)", LETTERS.indexOf(c) >= 0 ? 1 : -1002);
            read("r" + c + "(1=1)", LETTERS.indexOf(c) >= 0 ? 1 : -1001);
            read("s1(1=" + c + ")", LETTERS.indexOf(c) >= 0 ? 1 : -1005);
        }
    }

    private static void letters() {
        sentence("a to j: in n whether FACTS 0 to 9 are true (1, 0), in s whether they are PROVED true (1, 0);");
        OwnHurt x = new OwnHurt();
        x.person(0);
        for (int f = 0; f < 10; f++) {
            char letter = (char) ('a' + f);
            x.facts(10);
            tell(x, "n(!" + letter + "=1);s1+" + letter + "(1=1)");
            due("half of the worlds", x.left(-1), 512);
            due("fact " + f + " is proved true", x.sentence(0), 2);
            tell(x, "n(" + letter + "=1);s1+" + letter + "(1=1)");
            due("fact " + f + " is proved false", x.sentence(0), 1);
            tell(x, "s1+" + letter + "(1=1)");
            due("fact " + f + " is not proved", x.sentence(0), 1);
            x.facts(Math.max(1, f));
            tell(x, "n(" + letter + "=1)");
            due("one that is not told is not true", x.left(-1), f == 0 ? 1 : 1 << f);
        }
        sentence("p the PERSON;");
        OwnHurt y = new OwnHurt();
        for (int p = 0; p < 5; p++) {
            addPerson(y, 0, 1, 1);
        }
        tell(y, "r[p-2]*[p-2](1=1);s10*p(1=1)");
        for (int p = 0; p < 5; p++) {
            due("in r, person " + p, y.would(p, 0, 1), p == 2 ? 0 : 1);
            due("in s, person " + p, y.sentence(p), 10 * p);
        }
        lettersOfSayings();
        lettersOfSentences();
        sentence("(All others are 0; in n all but a to j.)");
        OwnHurt z = court(2, 9, 9, "n(!p+x+v+y+z+k+w+m+t=0);n(b=1);r1(a+b+c+d+e+f+g+h+i+j+m+t=0);"
            + "s7+x+v+y+z+k+w(x+v+y+z+k+w=0)");
        z.truth(1);
        due("in n", z.left(-1), 2);
        due("in r", z.ask(0, 0), 1);
        due("in r, though one is proved true and it has paid", z.would(0, 0, 1), 1);
        due("in s", z.sentence(0), 7);
        z.facts(2);
        due("in n, though it has been sentenced", z.left(-1), 2);
        z.would(0, 1, 1);
        tell(z, "n(!p+x+v+y+z+k+w+m+t=0)");
        due("in n, though it has been asked what it would say", z.left(-1), 4);
    }

    private static void lettersOfSayings() {
        sentence("in r: x the FACT, v the value, y its HARM, z what SILENCE costs, k how many KNOW the FACT, "
            + "w how many FACTS the PERSON KNOWS (of 0 to 9);");
        OwnHurt x = new OwnHurt();
        x.facts(10);
        for (int p = 0; p < 5; p++) {
            addPerson(x, p == 0 ? 99 : p, 1023, 1 + p);
        }
        x.harm(0, 9, 1, 99);
        tell(x, "r1(x=9&v=1&y=99&z=99&k=5&w=10)");
        due("all at their most", x.would(0, 9, 1), 1);
        due("the value 0", x.would(0, 9, 0), 0);
        tell(x, "r1(x=0&v=0&y=1&z=0&k=1&w=1)");
        OwnHurt y = new OwnHurt();
        addPerson(y, 0, 1, 1);
        y.person(5);
        tell(y, "r1(x=0&v=0&y=1&z=0&k=1&w=1)");
        due("all at their least", y.would(0, 0, 0), 1);
        y.knows(1, 1);
        due("one more KNOWS it", y.would(0, 0, 0), 0);
        y.knows(1, 1022);
        y.knows(0, 513);
        due("an untold fact is KNOWN, too", y.would(0, 0, 0), 0);
        y.knows(0, 1);
        due("as at first", y.would(0, 0, 0), 1);
    }

    private static void lettersOfSentences() {
        sentence("in s: m how many FACTS are PROVED, t what the PERSON has paid so far.");
        OwnHurt x = court(10, 99, 0, "n(a+c+e+g+i<5);n(b+d+f+h+j>0);s10*m+a(1=1)");
        due("all ten", x.sentence(0), 101);
        tell(x, "s10*m(1=1)");
        due("none", x.sentence(0), 0);
        tell(x, "n(1=1);s10*m+5+a(1=1)");
        due("none, as no world is left", x.sentence(0), 5);
        tell(x, "s[t-3000](1=1)");
        due("nothing yet", x.sentence(0), 0);
        x.draw(40);
        due("the most that can be", x.sentence(0), 3960 - 3000);
    }

    private static void holds(String c, boolean due) {
        OwnHurt x = new OwnHurt();
        tell(x, "n(" + c + ")");
        due("whether " + c, x.left(-1), due ? 0 : 2);
    }

    private static void thirtyTwoBits() {
        sentence("All is reckoned with 32 bits, as the machine does;");
        holds("65536*65536=0", true);
        holds("32768*65536<0", true);
        holds("32767*65536+65535>0", true);
        holds("32767*65536+65535+1=" + LEAST_E, true);
        holds(LEAST_E + "-1>0", true);
        holds("0-" + LEAST_E + "=" + LEAST_E, true);
        holds("99999*99999=14098*[50000*2]+65409", true);
        holds("99999*99999*99999=[0-14654]*[50000*2]-23905", true);
        holds(LEAST_E + "<" + LEAST_E + "-1", true);
        holds(LEAST_E + "-1>" + LEAST_E, true);
        holds(LEAST_E + "/[0-1]=" + LEAST_E, true);
        holds(LEAST_E + "%[0-1]=0", true);
        holds("[0-7]/2=0-3", true);
        holds("7/[0-2]=0-3", true);
        holds("[0-7]%2=0-1", true);
        holds("7%[0-2]=1", true);
        holds("0/5=0&0%5=0", true);
        due("a sentence that wraps around", reckoned("65536*65536+5"), 5);
        due("a saying that wraps around", would("r65536*65536+1(1=1)"), 1);
    }

    /** As many comparisons, terms and brackets as a text can hold lose nothing on the way. */
    private static void longTexts() {
        for (String piece : new String[] {"0<1", "1>0", "1=1", "0<1&1>0", "!0>1"}) {
            int times = 190 / (piece.length() + 1);
            holds((piece + "&").repeat(times) + "2>1", true);
            holds((piece + "&").repeat(times) + "1>2", false);
        }
        for (String piece : new String[] {"1<0", "0>1", "1=0", "1<0|0>1"}) {
            int times = 190 / (piece.length() + 1);
            holds((piece + "|").repeat(times) + "2>1", true);
            holds((piece + "|").repeat(times) + "1>2", false);
        }
        holds("1+".repeat(94) + "1=95", true);
        holds("95=" + "1+".repeat(94) + "1", true);
        due("six brackets with two waiting at each", reckoned("1+2*[1+2*[1+2*[1+2*[1+2*[1+2*[7-2*3]]]]]]"), 127);
        holds("1+2*[1+2*[1+2*[1+2*[1+2*4]]]]=1+2*[1+2*[1+2*[1+2*[1+2*[4]]]]]", true);
        holds("1+2*[1+2*[1+2*[1+2*[1+2*4]]]]=1+2*[1+2*[1+2*[1+2*[9]]]]", true);
    }

    private static void dividedByZero() {
        sentence("what is divided by 0 is REFUSED: then a C does not hold, an E is 0.");
        String[] refused = {"1/0=0", "1%0=0", "0/0=0", "0%0=0", "1/0=1", "0=1/0", "1/[2-2]=0", "[1/0]=0",
            "0*[1/0]=0", "1/0*0=0", "1/b=0", "1%b=0", LEAST_E + "/0<1", "1/0<1", "1/0>0-1", "(1/0=0)", "!1/0=1",
            "!!1/0=1", "!(1/0=1)", "1/0=0|1=1", "1=1&1/0=0", "(1/0=0|1=1)&1=1"};
        for (String c : refused) {
            holds(c, false);
        }
        holds("0/1=0", true);
        holds("1/1=1", true);
        String[] es = {"1/0", "1%0", "0/0", "5+1/0", "1/0+5", "5-[1/0]", "[1/0]*0+5", "5+1/a", "5+1%[a*2]"};
        for (String e : es) {
            due("s" + e, reckoned(e), 0);
            due("r" + e, would("r" + e + "(1=1)"), 0);
        }
        due("the next s, as the C does not hold", sentenceBy("s5(1/0=0);s6(!1/0=0);s7(1=1)"), 7);
        due("not the next s, as the E is 0", sentenceBy("s1/0(1=1);s7(1=1)"), 0);
        due("the next r, as the C does not hold", would("r0(1%0=0);r1(1=1)"), 1);
        due("not the next r, as the E is 0", would("r1%0(1=1);r1(1=1)"), 0);
        due("an E whose C does not hold is not asked", sentenceBy("s1/0(1=2);s7(1=1)"), 7);
    }

    private static void askedAsFarAsItMatters() {
        sentence("Of a C as much is asked, from the left, as matters.");
        holds("1=1|1/0=1", true);
        holds("1=2|1=1|1/0=1", true);
        holds("1=1|1/0=1&1=2", true);
        holds("1=1|(1/0=1)", true);
        holds("1=1|!1/0=1", true);
        holds("!(1=2&1/0=1)", true);
        holds("!(1=1&1=2&1/0=1)", true);
        holds("1=2&1/0=1|1=1", true);
        holds("1=2&1/0=1&1/0=1|1=1", true);
        holds("(1=1|1/0=1)&1=1", true);
        holds("!(1=1|1/0=1)|1=1", true);
        holds("(1=2&1/0=1)|1=1", true);
        holds("1=2|1/0=1", false);
        holds("1=2|1/0=1|1=1", false);
        holds("1=1&1/0=1|1=1", false);
        holds("!(1=1&1/0=1)", false);
        holds("1/0=1&1=2|1=1", false);
    }

    private static void whatCanNotStand() {
        sentence("1 what can't stand there (the end, too);");
        String factor = LETTERS + DIGITS;
        for (int b = 0; b < 256; b++) {
            char c = (char) b;
            put(0, "n(a=1)", c, c == 'n' ? 1 : c == 'r' || c == 's' ? -1001 : -1000);
            put(1, "n(a=1)", c, c == '(' ? 1 : -1001);
            put(2, "n(a=1)", c, in(factor, c) ? 1 : in("([!", c) ? -1003 : -1002);
            put(3, "n(a=1)", c, in("<>=", c) ? 1 : in(JOINING, c) ? -1005 : -1003);
            put(4, "n(a=1)", c, in(factor, c) ? 1 : c == '[' ? -1005 : -1004);
            put(5, "n(a=1)", c, c == ')' ? 1 : in(DIGITS + JOINING + "&|", c) ? -1006 : -1005);
            put(6, "n(a=1)", c, c == ';' ? -1007 : -1006);
            put(1, "r1(1=1)", c, in(factor, c) ? 1 : c == '[' ? -1002 : -1001);
            put(2, "r1(1=1)", c, c == '(' ? 1 : in(DIGITS + JOINING, c) ? -1004 : -1002);
            put(1, "sa(1=1)", c, in(factor, c) ? 1 : c == '[' ? -1002 : -1001);
            put(2, "sa(1=1)", c, c == '(' ? 1 : in(JOINING, c) ? -1004 : -1002);
            put(4, "n((a=1))", c, in("<>=", c) ? 1 : in(JOINING, c) ? -1006 : -1004);
            put(4, "n([a]=1)", c, c == ']' ? 1 : in(JOINING, c) ? -1005 : -1004);
            put(3, "n(!a=1)", c, in(factor, c) ? 1 : in("([!", c) ? -1004 : -1003);
            put(6, "n(a=1&a=1)", c, in(factor, c) ? 1 : in("([!", c) ? -1007 : -1006);
            put(6, "n(a=1|a=1)", c, in(factor, c) ? 1 : in("([!", c) ? -1007 : -1006);
            put(4, "n(a+a=1)", c, in(factor, c) ? 1 : c == '[' ? -1005 : -1004);
        }
        read("n([a=1])", -1004);
        read("n((a)=1)", -1004);
        read("n(a=1)(b=1)", -1006);
        read("n(a=1]", -1005);
        read("n(([a)]=1)", -1005);
    }

    private static boolean in(String signs, char c) {
        return signs.indexOf(c) >= 0;
    }

    /** A text with another sign at a place, or with one more behind its end. */
    private static void put(int place, String text, char c, int answer) {
        String rest = place < text.length() ? text.substring(place + 1) : "";
        due("law of " + text + " with " + (int) c + " at " + place,
            tell(new OwnHurt(), text.substring(0, place) + c + rest), answer);
    }

    private static void theEnd() {
        String text = "r12+a*[b-3](!(c<4)&d>5|e=6);s7(1=1)";
        for (int n = 1; n <= text.length(); n++) {
            boolean whole = n == text.indexOf(';') || n == text.length();
            read(text.substring(0, n), whole ? n < text.length() ? 1 : 2 : -1000 - n);
        }
        read("n(" + "1+".repeat(99), -1200);
        OwnHurt x = new OwnHurt();
        for (int n = 1; n < text.indexOf(';'); n++) {
            tell(x, text);
            due("the first " + n + " signs behind the whole text", tell(x, text.substring(0, n)), -1000 - n);
        }
    }

    private static void sixthDigit() {
        sentence("2 a sixth digit, at it;");
        read("r12345(1=1)", 1);
        read("r123456(1=1)", -2006);
        read("r1234567(1=1)", -2006);
        read("r000000(1=1)", -2006);
        read("s1+[123456](1=1)", -2009);
        read("n(123456=1)", -2007);
        read("n(1=123456)", -2009);
        read("n(99999=99999)", 1);
        read("n(99999=999999", -2013);
        read("n(12345a=1)", -1007);
        read("n(a12345=1)", -1003);
    }

    private static void fifteenthClause() {
        sentence("4 a 15th CLAUSE, at its letter (if that can stand there);");
        String fourteen = (NEVER + ";").repeat(13) + NEVER;
        for (char c : new char[] {'n', 'r', 's'}) {
            read(fourteen + ";" + c, -4098);
            read(fourteen + ";" + c + "1(1=1)", -4098);
        }
        read(fourteen + ";" + NEVER + ";" + NEVER, -4098);
        read(fourteen + ";", -1098);
        read(fourteen + ";;", -1098);
        read(fourteen + ";(", -1098);
        read(fourteen + ";a", -1098);
        read(fourteen + "n", -1097);
    }

    /** A clause with so many openings in one another behind its own (, the last of which are brackets. */
    private static String opened(String openings) {
        int brackets = openings.length() - openings.replace("[", "").length();
        String parentheses = openings.replaceAll("[^(]", "").replace('(', ')');
        return "n(" + openings + "a" + "]".repeat(brackets) + "=1" + parentheses + ")";
    }

    private static void seventhOpen() {
        sentence("5 a seventh of ( [ ! that are open in one another, at it");
        for (int brackets = 0; brackets <= 6; brackets++) {
            int others = 6 - brackets;
            for (int set = 0; set < 1 << others; set++) {
                StringBuilder openings = new StringBuilder();
                for (int i = 0; i < others; i++) {
                    openings.append((set >> i & 1) == 1 ? '(' : '!');
                }
                openings.append("[".repeat(brackets));
                read(opened(openings.toString()), -5007);
                read(opened(openings.substring(1)), 1);
            }
        }
        read("n([a]+[a]+[a]+[a]+[a]+[a]+[a]=1)", 1);
        read("n((a=1)&(a=1)&(a=1)&(a=1)&(a=1)&(a=1)&(a=1))", 1);
        read("n(((((((", -5007);
        sentence("(the ( of the CLAUSE counts;");
        read("n((((((a=1))))))", 1);
        read("n(((((((a=1)))))))", -5007);
        read("s1(((((((a=1)))))))", -5008);
        read(NEVER + ";n(((((((a=1)))))))", -5014);
        sentence("the E of a CLAUSE stands ahead of it).");
        read("s[[[[[[1]]]]]](1=1)", 1);
        read("s[[[[[[[1]]]]]]](1=1)", -5007);
        read("r[[[[[[1]]]]]]+[[[[[[1]]]]]]((((((a=1))))))", 1);
        read("r1+[[[[[[1+[2]]]]]]](1=1)", -5011);
        read(NEVER + ";r[[[[[[1]]]]]](1=1)", 2);
    }

    private static void openTillItsPieceEnds() {
        sentence("a ! is open till its PIECE ends;");
        read("n(!a=1&!a=1&!a=1&!a=1&!a=1&!a=1&!a=1)", 1);
        read("n(!!!!!a=1|!!!!!a=1)", 1);
        read("n(!!!!(a=1)&!!!!(a=1))", 1);
        read("n(!(!!!a=1&!!!a=1))", 1);
        read("n(!(!!!a=1&!!!!a=1))", -5014);
        read("n(!(a=1&!!!!a=1))", -5011);
        read("n(!!!!a=[1])", 1);
        read("n(!!!!!a=[1])", -5009);
        read("n(!!!!!a=1+[1])", -5011);
        read("n(!!!!!a=1&[1]=1)", 1);
        read("n(!(((a=1)))&((((([a]=1))))))", -5018);
        read("n(!(((a=1)))&(((([a]=1)))))", 1);
    }

    private static void firstFaultFromTheLeft() {
        sentence("FAULTS, the first from the left:");
        read("n(123456=((((((((", -2007);
        read("n(((((((123456", -5007);
        read("n(a=1;123456=(((((((", -1005);
        read("n(((((((a=1)))))));?", -5007);
        read("n(1=1)?123456", -1006);
        String thirteen = (NEVER + ";").repeat(13);
        read(thirteen + "n(123456=1);n(a=1)", -2098);
        read(thirteen + "n(?);n(a=1)", -1093);
        read(thirteen + "n(((((((1=1)))))));n(a=1)", -5098);
        read(thirteen + NEVER + ";n(123456=1)", -4098);
    }

    private static void worldsLeft() {
        sentence("WORLDS LEFT: at first all that can be (of the told FACTS);");
        due("a new object", leftBits(new OwnHurt()), bits(0, 1));
        OwnHurt x = court(2, 5, 9, "n(a=1&b=1);" + ALL_SAY);
        due("by a law", leftBits(x), bits(0, 1, 2));
        x.facts(3);
        due("of three facts", leftBits(x), bits(0, 1, 2, 4, 5, 6));
        x.facts(1);
        due("of one fact", leftBits(x), bits(0, 1));
        sentence("they are so again whenever FACTS or THE LAW are told "
            + "(THE BOOK is empty then, nobody has paid anything).");
        for (int told = 0; told < 3; told++) {
            OwnHurt y = court(2, 5, 9, "n(a=1&b=1);" + ALL_SAY);
            for (int p = 1; p < 5; p++) {
                y.person(10 + p);
            }
            for (int p = 0; p < 5; p++) {
                y.ask(p, 0);
            }
            due("what is left ahead of that", leftBits(y), bits(0, 2));
            if (told == 0) {
                y.facts(2);
            } else if (told == 1) {
                tell(y, "n(a=1&b=1);" + ALL_SAY);
            } else {
                y.facts(1);
            }
            due("worlds left", leftBits(y), told == 2 ? bits(0, 1) : bits(0, 1, 2));
            due("the book", y.count(4), 0);
            due("nothing to take back", y.back(), false);
            for (int p = 0; p < 5; p++) {
                due("what person " + p + " has paid", y.paid(p), 0);
            }
        }
    }

    private static void oneWorldLeft() {
        for (int world : new int[] {0, 1, 63, 64, 128, 511, 512, 1022, 1023}) {
            OwnHurt x = new OwnHurt();
            x.facts(10);
            tell(x, "n(!a+2*b+4*c+8*d+16*e+32*f+64*g+128*h+256*i+512*j=" + world + ")");
            due("world " + world + " alone", x.left(-1) * 10000 + x.left(0), 10000 + world);
            due("all are proved", x.count(7), 1023);
            for (int f = 0; f < 10; f++) {
                due("fact " + f + " in world " + world, x.proved(f), world >> f & 1);
            }
        }
    }

    private static void provedFacts() {
        sentence("PROVED is a FACT that is true in all WORLDS LEFT, or false in all (none left: none is).");
        OwnHurt x = new OwnHurt();
        x.facts(3);
        tell(x, "n(a=0);n(b=1)");
        due("true, false, neither", x.proved(0) * 100 + x.proved(1) * 10 + x.proved(2), 102);
        due("as bits", x.count(7), 3);
        tell(x, "n(!a+b+c=3)");
        due("one world left: all are", x.count(7), 7);
        oneWorldLeft();
        tell(x, "n(1=1)");
        due("none left", x.left(-1), 0);
        due("none is", x.count(7), 0);
        due("neither", x.proved(0) * 100 + x.proved(1) * 10 + x.proved(2), 222);
        sentence("A PERSON WOULD SAY that a FACT has a value, if it KNOWS it, its HARM by that is above 0 "
            + "(else it is not heard), and r is above 0.");
        OwnHurt y = court(1, 5, 1, ALL_SAY);
        due("all three", y.would(0, 0, 1), 1);
        y.knows(0, 1022);
        due("not known", y.would(0, 0, 1), 0);
        y.knows(0, 1);
        y.harm(0, 0, 1, 0);
        due("not heard", y.would(0, 0, 1), 0);
        due("heard of the other value", y.would(0, 0, 0), 1);
        y.harm(0, 0, 1, 1);
        tell(y, "r0(1=1)");
        due("r is 0", y.would(0, 0, 1), 0);
    }
}
