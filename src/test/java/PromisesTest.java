/** For each promise of the document: ordinary inputs, the edges it names, and wrong inputs. */
public final class PromisesTest extends TestCourt {
    private PromisesTest() { }

    public static void main(String[] args) {
        newObject();
        facts();
        truth();
        person();
        knows();
        harm();
        feed();
        lawFaults();
        lawInPlace();
        lawReckons();
        would();
        ask();
        half();
        back();
        anew();
        left();
        isLeft();
        proved();
        tells();
        paid();
        sentence();
        open();
        fewest();
        fewestOfTen();
        ahead();
        alike();
        lesser();
        best();
        judge();
        seed();
        draw();
        check();
        count();
        extremes();
        end();
    }

    private static void newObject() {
        promise(1);
        OwnHurt x = new OwnHurt();
        int[] at = {1, 0, 0, 0, 0, 1, 0, 0};
        for (int i = 0; i < at.length; i++) {
            due("count(" + i + ")", x.count(i), at[i]);
        }
        due("left(-1)", x.left(-1), 2);
        due("paid(0)", x.paid(0), -1);
        due("NONE", OwnHurt.NONE, -1);
    }

    private static void facts() {
        promise(2);
        OwnHurt x = court(3, 2, 1, "n(a=1&b=1);" + ALL_SAY);
        x.truth(7);
        due("facts(0)", x.facts(0), -1);
        due("facts(11)", x.facts(11), -1);
        due("facts(-5)", x.facts(-5), -1);
        due("a refused one leaves all", x.count(6) + x.count(0), 10);
        x.ask(0, 2);
        due("facts(2)", x.facts(2), 3);
        due("the truth loses bits", x.count(6), 3);
        due("the book is empty", x.count(4), 0);
        due("nothing is paid", x.paid(0), 0);
        due("facts(10)", x.facts(10), 768);
        due("facts(1)", x.facts(1), 2);
        due("the truth stays without them", x.count(6), 1);
    }

    private static void truth() {
        promise(3);
        OwnHurt x = new OwnHurt();
        due("truth(1)", x.truth(1), true);
        due("truth(2)", x.truth(2), false);
        due("truth(-1)", x.truth(-1), false);
        due("count(6)", x.count(6), 1);
        x.facts(10);
        due("truth(1023)", x.truth(1023), true);
        due("truth(1024)", x.truth(1024), false);
        tell(x, "n(a=1)");
        due("a truth that can't be", x.truth(1), true);
    }

    private static void person() {
        promise(4);
        OwnHurt x = new OwnHurt();
        due("person(-1)", x.person(-1), -1);
        due("person(100)", x.person(100), -1);
        for (int p = 0; p < 5; p++) {
            due("person(99)", x.person(99 - p), p);
            due("silence", x.count(20 + p), 99 - p);
        }
        due("a sixth", x.person(0), -1);
        due("count(1)", x.count(1), 5);
    }

    private static void knows() {
        promise(5);
        OwnHurt x = new OwnHurt();
        due("nobody", x.knows(0, 1), false);
        x.person(0);
        due("knows nothing at first", x.count(10), 0);
        due("knows(0, 1023)", x.knows(0, 1023), true);
        due("knows(0, 1024)", x.knows(0, 1024), false);
        due("knows(0, -1)", x.knows(0, -1), false);
        due("knows(1, 0)", x.knows(1, 0), false);
        due("knows(-1, 0)", x.knows(-1, 0), false);
        due("count(10)", x.count(10), 1023);
        due("knows(0, 0)", x.knows(0, 0), true);
        due("count(10)", x.count(10), 0);
    }

    private static void harm() {
        promise(6);
        OwnHurt x = new OwnHurt();
        due("nobody", x.harm(0, 0, 0, 0), false);
        x.person(50);
        x.knows(0, 1023);
        tell(x, ALL_SAY);
        due("no harm at first", x.would(0, 0, 1), 0);
        due("harm of an untold fact", x.harm(0, 9, 1, 99), true);
        due("fact 10", x.harm(0, 10, 1, 1), false);
        due("fact -1", x.harm(0, -1, 1, 1), false);
        due("value 2", x.harm(0, 0, 2, 1), false);
        due("value -1", x.harm(0, 0, -1, 1), false);
        due("harm 100", x.harm(0, 0, 1, 100), false);
        due("harm -1", x.harm(0, 0, 1, -1), false);
        due("person 1", x.harm(1, 0, 1, 1), false);
        due("still none", x.would(0, 0, 1), 0);
        due("harm 1", x.harm(0, 0, 1, 1), true);
        due("of one value alone", x.would(0, 0, 1) * 10 + x.would(0, 0, 0), 10);
        x.facts(10);
        due("the untold one's", x.would(0, 9, 1), 1);
        due("harm 0 again", x.harm(0, 0, 1, 0), true);
        due("not heard", x.would(0, 0, 1), 0);
    }

    private static void feed() {
        promise(7);
        OwnHurt x = new OwnHurt();
        for (int i = 1; i <= 11; i++) {
            due("feed " + i, x.feed(-1, 0, 0, 0, 0), 20 * i);
        }
        due("a twelfth", x.feed(0, 0, 0, 0, 0), -1);
        due("count(3)", x.count(3), 220);
        due("byte 255 can't stand", x.law(1), -1000);
        due("empty then", x.feed(0x6E28613D, 0x32290000, 0, 0, 0), 20);
        due("the highest byte first", x.law(6), 1);
    }

    private static void lawFaults() {
        promise(8);
        read("x", -1000);
        read(" n(a=1)", -1000);
        read("n(a =1)", -1003);
        read("n(a==1)", -1004);
        read("n(a<1<2)", -1005);
        read("n((a)=1)", -1004);
        read("n(a=1))", -1006);
        read("n(a=1)&(b=1)", -1006);
        read("n(a=1&)", -1006);
        read("n(a=1|)", -1006);
        read("n(!)", -1003);
        read("n()", -1002);
        read("n([])", -1003);
        read("n([a=1])", -1004);
        read("n(-1=1)", -1002);
        read("n(1+=1)", -1004);
        read("r(1=1)", -1001);
        read("n1(1=1)", -1001);
        read("s1[2](1=1)", -1002);
        read("r!1(1=1)", -1001);
        read("r1(1=1);;", -1008);
        read("r1(1=1),", -1007);
        read("r12345(1=1)", 1);
        read("r00001(1=1)", 1);
        read("r123456(1=1)", -2006);
        read("r1(000000=1)", -2008);
        read("r12345a(1=1)", -1006);
        for (char c : "lnoqrsuA{~\u00e9\u0000".toCharArray()) {
            read("r" + c + "(1=1)", -1001);
        }
        for (char c : "abcdefghijkmptvwxyz".toCharArray()) {
            read("n(" + c + "=1)", 1);
            read("r" + c + "(" + c + "=1)", 1);
            read("s" + c + "(" + c + "=1)", 1);
        }
        read("n((((((a=1))))))", 1);
        read("n(((((((a=1)))))))", -5007);
        read("n((((([a]=1)))))", 1);
        read("n(((((([a]=1))))))", -5007);
        read("n((((((!a=1))))))", -5007);
        read("n(!!!!!a=1)", 1);
        read("n(!!!!!!a=1)", -5007);
        read("n(!a=1&!a=1&!a=1&!a=1&!a=1&!a=1&!a=1)", 1);
        read("n(!!!!(a=1)&!!!!![a]=1)", -5017);
        read("s[[[[[[1]]]]]](1=1)", 1);
        read("s1+[[[[[[[1]]]]]]](1=1)", -5009);
        read("n(a(((((((", -1003);
        String fourteen = "n(a=2);".repeat(13) + "n(a=2)";
        read(fourteen, 14);
        read(fourteen + ";", -1098);
        read(fourteen + ";n(a=2)", -4098);
        read(fourteen + ";s", -4098);
        read(fourteen + ";q", -1098);
        read("n(" + "1".repeat(5) + "+1".repeat(95) + "=1", -1199);
        read("n(" + "1".repeat(4) + "+1".repeat(95) + "=1)", 1);
    }

    private static void lawInPlace() {
        promise(8);
        OwnHurt x = court(2, 4, 3, "n(a=1&b=1);" + ALL_SAY);
        x.ask(0, 0);
        due("law(0)", x.law(0), -1);
        due("law(1) of nothing", x.law(1), -1);
        feedBytes(x, 'n');
        due("law(21) of twenty", x.law(21), -1);
        due("law(201)", x.law(201), -1);
        due("the tape stays", x.count(3), 20);
        due("a fault", x.law(20), -1001);
        due("the tape is empty", x.count(3), 0);
        due("the law stays", x.count(2), 2);
        due("the book stays", x.count(4), 1);
        due("what was paid stays", x.paid(0), 3);
        due("what is left stays", x.left(-1), 2);
        due("a new law", tell(x, "n(a=b)"), 1);
        due("the book is empty", x.count(4), 0);
        due("nothing is paid", x.paid(0), 0);
        due("all that can be", x.left(-1) * 100 + x.left(0) * 10 + x.left(1), 212);
        due("the old one is gone", x.would(0, 0, 1), 0);
    }

    /** What a law's sentence is, with nothing proved. */
    private static int reckoned(String expression) {
        OwnHurt x = court(2, 5, 7, "s" + expression + "(1=1)");
        return x.sentence(0);
    }

    private static void holdsInWorlds(String condition, int... worlds) {
        OwnHurt x = new OwnHurt();
        x.facts(2);
        tell(x, "n(" + condition + ")");
        int bits = 15;
        for (int w : worlds) {
            bits &= ~(1 << w);
        }
        int left = 0;
        for (int w = 0; w < 4; w++) {
            left |= x.isLeft(w) ? 1 << w : 0;
        }
        due("n(" + condition + ")", left, bits);
    }

    private static void lawReckons() {
        promise(8);
        due("from the left", reckoned("10-3-2"), 5);
        due("terms first", reckoned("2+3*4"), 14);
        due("factors from the left", reckoned("7/2*2%4"), 2);
        due("brackets", reckoned("[2+3]*4"), 20);
        due("bound above", reckoned("1000"), 999);
        due("bound below", reckoned("1-2"), 0);
        due("towards zero", reckoned("[1-8]/2+3"), 0);
        due("rest by the machine", reckoned("[1-8]%4+5"), 2);
        due("32 bits", reckoned("[65536*65536]+5"), 5);
        due("the least by -1", reckoned("[32768*65536]/[0-1]/65536+32769"), 1);
        due("the least's rest by -1", reckoned("[32768*65536]%[0-1]+3"), 3);
        due("divided by 0", reckoned("5+1/0"), 0);
        due("rest by 0", reckoned("5+[1%[a]]"), 0);
        holdsInWorlds("a=1", 1, 3);
        holdsInWorlds("a>0&b<1", 1);
        holdsInWorlds("a=1|b=1", 1, 2, 3);
        holdsInWorlds("a=1|b=1&a=b", 1, 3);
        holdsInWorlds("(a=1|b=1)&a=b", 3);
        holdsInWorlds("!a=1&b=1", 2);
        holdsInWorlds("!(a=1&b=1)", 0, 1, 2);
        holdsInWorlds("!!a=1", 1, 3);
        holdsInWorlds("a/b=1", 3);
        holdsInWorlds("!a/b=1", 2);
        holdsInWorlds("a=0|a/b=1", 0, 2, 3);
        holdsInWorlds("a/b=1|a=0", 2, 3);
        holdsInWorlds("!(b=1&a/0=1)", 0, 1);
        holdsInWorlds("p+x+v+y+z+k+w+m+t+c>0");
        due("of s the first that holds", sentenceOf("s5(1=2);s1/0(1=1);s7(1=1)"), 0);
        due("refused is passed over", sentenceOf("s5(1/0=0);s6(!1/0=0);s7(1=1);s8(1=1)"), 7);
        due("no clause holds", sentenceOf("s5(a=1)"), 0);
    }

    private static int sentenceOf(String text) {
        return court(1, 0, 0, text).sentence(0);
    }

    private static int wouldBy(String expression) {
        OwnHurt x = new OwnHurt();
        x.facts(3);
        for (int p = 0; p < 3; p++) {
            x.person(5 + p);
        }
        x.knows(0, 4);
        x.knows(1, 512 + 16 + 4);
        x.harm(1, 2, 1, 9);
        tell(x, "r1(" + expression + ")");
        return x.would(1, 2, 1);
    }

    private static void would() {
        promise(9);
        OwnHurt x = court(2, 5, 9, "r1-v(x=1);r0(y=8);r7-y(z=5&y<7);r0-1(y<9);r200(1=1)");
        due("fact 0", x.would(0, 0, 1), 1);
        due("fact 1 false", x.would(0, 1, 0), 1);
        due("fact 1 true", x.would(0, 1, 1), 0);
        x.harm(0, 0, 1, 8);
        due("the first that holds", x.would(0, 0, 1), 0);
        x.harm(0, 0, 1, 7);
        due("below 0 is 0", x.would(0, 0, 1), 0);
        x.harm(0, 0, 1, 6);
        due("above 0", x.would(0, 0, 1), 1);
        x.knows(0, 2);
        due("not known", x.would(0, 0, 1), 0);
        due("fact 2", x.would(0, 2, 1), -1);
        due("fact -1", x.would(0, -1, 1), -1);
        due("person 1", x.would(1, 0, 1), -1);
        due("person -1", x.would(-1, 0, 1), -1);
        due("value 2", x.would(0, 0, 2), -1);
        due("value -1", x.would(0, 0, -1), -1);
        for (String right : new String[] {"p=1", "x=2", "v=1", "y=9", "z=6", "k=2", "w=3"}) {
            due("r1(" + right + ")", wouldBy(right), 1);
        }
        due("the others are 0", wouldBy("a+b+c+d+e+f+g+h+i+j+m+t=0"), 1);
        due("no law", court(1, 5, 9, "n(a=2)").would(0, 0, 1), 0);
    }

    private static void ask() {
        promise(10);
        OwnHurt x = court(3, 5, 9, "r1(v=1&x<2)");
        x.truth(5);
        due("it says", x.ask(0, 0), 1);
        due("left", x.left(-1) * 10 + x.left(0), 41);
        due("it is silent on what is false", x.ask(0, 1), 2);
        due("left", x.left(-1) * 10 + x.left(1), 25);
        due("it would say nothing", x.ask(0, 2), 2);
        due("all stay", x.left(-1), 2);
        due("paid", x.paid(0), 19);
        x.knows(0, 0);
        due("it does not know", x.ask(0, 0), 2);
        due("all stay", x.left(-1), 2);
        due("person 1", x.ask(1, 0), -1);
        due("fact 3", x.ask(0, 3), -1);
        due("fact -1", x.ask(0, -1), -1);
        due("rows", x.count(4), 4);
        for (int i = 4; i < 40; i++) {
            due("row " + i, x.ask(0, 0), 2);
        }
        due("the book is full", x.ask(0, 0), -2);
        due("nobody comes first", x.ask(1, 0), -1);
        due("paid", x.paid(0), 19 + 37 * 5);
        OwnHurt y = court(1, 5, 9, "r1(v=0)");
        due("it says that it is false", y.ask(0, 0), 0);
        y.truth(1);
        due("a truth that is not left", y.ask(0, 0), 2);
        due("none is left", y.left(-1), 0);
    }

    private static void half() {
        promise(11);
        OwnHurt x = court(3, 5, 9, "r1(v=1&x<2)");
        x.harm(0, 1, 1, 4);
        x.truth(2);
        due("one is true", x.half(0, 0, 1), 1);
        due("the lesser is paid", x.paid(0), 4);
        due("both false go", x.left(-1) * 100 + x.left(0) * 10 + x.left(3), 615);
        x.anew();
        x.truth(4);
        due("none is true", x.half(0, 1, 0), 2);
        due("silence is paid", x.paid(0), 5);
        due("what is left", x.left(-1) * 100 + x.left(0) * 10 + x.left(1), 204);
        x.anew();
        due("one it would not say", x.half(0, 0, 2), 2);
        due("all stay", x.left(-1), 8);
        x.knows(0, 5);
        x.truth(3);
        due("one it does not know", x.half(0, 0, 1), 2);
        due("all stay", x.left(-1), 8);
        due("one fact twice", x.half(0, 1, 1), -1);
        due("fact 3", x.half(0, 0, 3), -1);
        due("fact 3", x.half(0, 3, 0), -1);
        due("fact -1", x.half(0, -1, 0), -1);
        due("person 1", x.half(1, 0, 1), -1);
        x.draw(40);
        due("the book is full", x.half(0, 0, 1), -2);
        due("no such one comes first", x.half(0, 0, 0), -1);
    }

    private static void back() {
        promise(12);
        OwnHurt x = court(2, 5, 9, "r1(v=1)");
        due("an empty book", x.back(), false);
        x.truth(1);
        x.ask(0, 0);
        x.knows(0, 0);
        x.harm(0, 0, 1, 0);
        x.ask(0, 1);
        due("back()", x.back(), true);
        due("paid", x.paid(0), 9);
        due("back()", x.back(), true);
        due("as it was, though all has changed", x.left(-1) * 10 + x.paid(0), 40);
        due("back()", x.back(), false);
    }

    private static void anew() {
        promise(13);
        OwnHurt x = court(2, 5, 9, "r1(v=1)");
        due("anew()", x.anew(), 0);
        x.ask(0, 0);
        x.half(0, 0, 1);
        x.ask(0, 1);
        due("anew()", x.anew(), 3);
        due("left", x.left(-1), 4);
        due("paid", x.paid(0), 0);
        due("rows", x.count(4), 0);
        due("anew()", x.anew(), 0);
    }

    private static void left() {
        promise(14);
        OwnHurt x = new OwnHurt();
        x.facts(10);
        tell(x, "n(!a=1);n(!j=1);n(e=0)");
        due("left(-1)", x.left(-1), 128);
        due("left(0)", x.left(0), 512 + 17);
        due("left(1)", x.left(1), 512 + 19);
        due("left(8)", x.left(8), 512 + 17 + 32);
        due("left(127)", x.left(127), 1023);
        due("left(128)", x.left(128), -1);
        due("left(-2)", x.left(-2), -1);
        due("left of much", x.left(Integer.MAX_VALUE), -1);
        due("left of little", x.left(Integer.MIN_VALUE), -1);
    }

    private static void isLeft() {
        promise(15);
        OwnHurt x = new OwnHurt();
        x.facts(8);
        tell(x, "n(a=h)");
        due("isLeft(0)", x.isLeft(0), false);
        due("isLeft(128)", x.isLeft(128), true);
        due("isLeft(129)", x.isLeft(129), false);
        due("isLeft(1)", x.isLeft(1), true);
        due("isLeft(257)", x.isLeft(257), false);
        due("isLeft(1024)", x.isLeft(1024), false);
        due("isLeft(-1)", x.isLeft(-1), false);
        due("isLeft(-128)", x.isLeft(-128), false);
    }

    private static void proved() {
        promise(16);
        OwnHurt x = new OwnHurt();
        x.facts(3);
        tell(x, "n(a=0);n(b=1)");
        due("true", x.proved(0), 1);
        due("false", x.proved(1), 0);
        due("neither", x.proved(2), 2);
        due("no such", x.proved(3), -1);
        due("no such", x.proved(-1), -1);
        tell(x, "n(1=1)");
        due("none left: none is", x.proved(0), 2);
    }

    private static void tells() {
        promise(17);
        OwnHurt x = court(3, 5, 9, "n(a=1&b=1);r1(v=1&x=0|x=1)");
        due("true", x.tells(0, 0, 1), 2);
        due("false, though it would not say it", x.tells(0, 0, 0), 4);
        due("silent", x.tells(0, 0, 2), 4);
        due("it says both", x.tells(0, 1, 2), 0);
        due("it says none", x.tells(0, 2, 2), 6);
        due("nothing is changed", x.left(-1) * 10 + x.count(4), 60);
        due("answer 3", x.tells(0, 0, 3), -1);
        due("answer -1", x.tells(0, 0, -1), -1);
        due("fact 3", x.tells(0, 3, 0), -1);
        due("person 1", x.tells(1, 0, 0), -1);
        x.knows(0, 0);
        due("it does not know", x.tells(0, 1, 2), 6);
    }

    private static void paid() {
        promise(18);
        OwnHurt x = court(2, 5, 9, ALL_SAY);
        x.person(3);
        x.ask(0, 0);
        x.ask(1, 0);
        x.ask(1, 1);
        due("paid(0)", x.paid(0), 9);
        due("paid(1)", x.paid(1), 6);
        due("paid(2)", x.paid(2), -1);
        due("paid(-1)", x.paid(-1), -1);
    }

    private static void sentence() {
        promise(19);
        OwnHurt x = court(4, 5, 9, "n(b=0);n(c=1);s1000*a+200*b+c*300+d*500+m*20+p*3+t(1=1);r1(x=3)");
        x.person(8);
        due("proved true, and false", x.sentence(0), 240);
        due("the person", x.sentence(1), 243);
        x.truth(8);
        x.ask(0, 3);
        due("what was paid", x.sentence(0), 200 + 500 + 60 + 9);
        due("not by the other", x.sentence(1), 763);
        due("sentence(2)", x.sentence(2), -1);
        due("sentence(-1)", x.sentence(-1), -1);
        tell(x, "s7+x+v+y+z+k+w(x+v+y+z+k+w=0)");
        due("all others are 0", x.sentence(0), 7);
        tell(x, "n(1=1);s50+a+m(1=1)");
        due("no world is left", x.sentence(1), 50);
    }

    private static void open() {
        promise(20);
        OwnHurt x = court(4, 5, 9, "r1(x=0&v=1|x=1&v=0|x=2)");
        due("open()", x.open(), 7);
        x.knows(0, 13);
        due("not known", x.open(), 5);
        x.person(1);
        x.knows(1, 2);
        x.harm(1, 1, 1, 1);
        due("not what would not be said", x.open(), 5);
        x.harm(1, 1, 0, 1);
        due("by another", x.open(), 7);
        x.facts(1);
        due("told facts alone", x.open(), 1);
        due("by nobody", new OwnHurt().open(), 0);
    }

    private static void fewest() {
        promise(21);
        OwnHurt x = court(4, 5, 9, "n(!d=a);" + ALL_SAY);
        x.person(0);
        x.knows(1, 1);
        x.harm(1, 0, 1, 1);
        due("it is like another one", x.fewest(3, 0), 1);
        due("the least fact, though it is open itself", x.fewest(3, 1), 0);
        due("the least person", x.fewest(3, 2), 0);
        x.knows(0, 8);
        due("the person by whom it is open", x.fewest(3, 2), 1);
        x.knows(1, 0);
        due("the fact itself", x.fewest(0, 1), 3);
        x.knows(0, 6);
        due("none prove it", x.fewest(0, 0), -2);
        due("none prove it", x.fewest(0, 2), -2);
        due("fact 4", x.fewest(4, 0), -1);
        due("fact -1", x.fewest(-1, 0), -1);
        due("what 3", x.fewest(0, 3), -1);
        due("what -1", x.fewest(0, -1), -1);
        tell(x, "n(a=1)");
        due("proved already", x.fewest(0, 0), 0);
        due("no fact", x.fewest(0, 1), -3);
        due("no person", x.fewest(0, 2), -3);
        tell(x, "n(1=1);" + ALL_SAY);
        due("no world is left", x.fewest(0, 0), -1);
    }

    private static void fewestOfTen() {
        promise(21);
        OwnHurt x = court(10, 5, 9, "n(!a=[b+c+d+e+f+g+h+i+j]%2);" + ALL_SAY);
        x.knows(0, 1022);
        due("all nine", x.fewest(0, 0), 9);
        due("the least fact", x.fewest(0, 1), 1);
        promise(22);
        due("all nine ahead", x.ahead(0, 0) * 10000 + x.ahead(0, 1), 91022);
        promise(21);
        x.ask(0, 4);
        due("eight more", x.fewest(0, 0), 8);
        tell(x, "n(i=0&j=0&!a=b|i=1&j=0&!a=c|i=0&j=1&!a=d|i=1&j=1&!a=e);" + ALL_SAY);
        due("the chosen one", x.fewest(0, 0), 3);
        due("who chooses comes first", x.fewest(0, 1), 8);
        promise(22);
        due("all that matter", x.ahead(0, 1), 798);
        promise(23);
        due("none are alike", x.alike(0, 0), -2);
        x.knows(0, 1022 - 16);
        due("none prove it", x.fewest(0, 0), -2);
        due("the least", x.alike(0, 0), 768);
        due("the other", x.alike(0, 1), 768 + 17);
    }

    private static void ahead() {
        promise(22);
        OwnHurt x = court(4, 5, 9, "n(!a=b);n(!c=d);" + ALL_SAY);
        due("of like ones the least", x.ahead(1, 1), 1);
        due("how many", x.ahead(1, 0), 1);
        x.knows(0, 14);
        due("another", x.ahead(0, 1), 2);
        x.knows(0, 12);
        due("none prove it", x.ahead(0, 0), -2);
        due("none prove it", x.ahead(0, 1), -2);
        due("fact 4", x.ahead(4, 0), -1);
        due("fact -1", x.ahead(-1, 0), -1);
        due("what 2", x.ahead(0, 2), -1);
        due("what -1", x.ahead(0, -1), -1);
        tell(x, "n(!a=[b+c]%2);n(!d=c);" + ALL_SAY);
        x.knows(0, 14);
        due("two, the least set", x.ahead(0, 1), 6);
        x.knows(0, 10);
        due("two", x.ahead(0, 1), 10);
        due("two", x.ahead(0, 0), 2);
        tell(x, "n(a=1)");
        due("proved already", x.ahead(0, 0), 0);
        due("the empty set", x.ahead(0, 1), 0);
        tell(x, "n(1=1)");
        due("no world is left", x.ahead(0, 0), -1);
    }

    private static void alike() {
        promise(23);
        OwnHurt x = court(3, 5, 9, "n(a+b+c<2);" + ALL_SAY);
        x.knows(0, 1);
        due("the least", x.alike(1, 0), 3);
        due("the other", x.alike(1, 1), 5);
        due("open itself", x.alike(0, 0), -2);
        due("open itself", x.alike(0, 1), -2);
        due("fact 3", x.alike(3, 0), -1);
        due("fact -1", x.alike(-1, 0), -1);
        due("what 2", x.alike(0, 2), -1);
        due("what -1", x.alike(0, -1), -1);
        x.knows(0, 0);
        due("the least", x.alike(0, 0), 3);
        due("the other", x.alike(0, 1), 6);
        tell(x, "n(1=1)");
        due("no world is left", x.alike(0, 0), -2);
    }

    private static void lesser() {
        promise(24);
        OwnHurt x = court(4, 5, 9, "r1(!x=3)");
        x.truth(1);
        x.harm(0, 1, 0, 4);
        x.harm(0, 1, 1, 1);
        x.harm(0, 2, 0, 4);
        x.harm(0, 3, 0, 2);
        due("of like ones the lowest", x.lesser(0, 0), 1);
        due("not one of like harm", x.lesser(0, 1), -2);
        x.harm(0, 2, 0, 3);
        due("the least", x.lesser(0, 0), 2);
        due("for one it would not say", x.lesser(0, 3), -2);
        x.knows(0, 9);
        due("it knows no other to say", x.lesser(0, 0), -2);
        due("it does not know it", x.lesser(0, 1), -1);
        due("fact 4", x.lesser(0, 4), -1);
        due("fact -1", x.lesser(0, -1), -1);
        due("person 1", x.lesser(1, 0), -1);
        x.knows(0, 1023);
        x.harm(0, 2, 0, 0);
        due("not one that is not heard", x.lesser(0, 0), 1);
        x.facts(1);
        x.truth(1);
        due("told facts alone", x.lesser(0, 0), -2);
    }

    private static void best() {
        promise(25);
        OwnHurt x = court(3, 5, 9, "r1(x<2);s100-40*a-b*30(1=1)");
        x.truth(3);
        due("all is said", x.best(0, 0), 18 + 30);
        due("all is said", x.best(0, 1), 3);
        tell(x, "r1(x<2);s100-40*a(1=1)");
        due("one is said", x.best(0, 0), 9 + 5 + 60);
        due("one is said", x.best(0, 1), 1);
        tell(x, "r1(x<2);s100-4*a-4*b(1=1)");
        due("of like ones the least", x.best(0, 0), 110);
        due("of like ones the least", x.best(0, 1), 0);
        tell(x, "r1(x<2);s20+t(1=1)");
        x.ask(0, 2);
        due("t with what is paid by this", x.best(0, 0), 10 + 20 + 5 + 10);
        tell(x, "n(a=1&b=1);r1(x<2);s200-m*20-a*50(1=1)");
        due("no world is left then: none is proved", x.best(0, 0), 14 + 200 - 40 - 50);
        due("so one alone is said", x.best(0, 1), 1);
        x.knows(0, 0);
        due("nothing to say", x.best(0, 0), 200);
        due("nothing to say", x.best(0, 1), 0);
        due("what 2", x.best(0, 2), -1);
        due("what -1", x.best(0, -1), -1);
        due("person 1", x.best(1, 0), -1);
        due("nothing is changed", x.left(-1) + x.count(4) + x.paid(0), 6);
    }

    private static void judge() {
        promise(26);
        OwnHurt x = court(3, 5, 9, "n(a=1&b=1);r1(v=1)");
        x.truth(4);
        x.ask(0, 2);
        x.harm(0, 2, 0, 0);
        judged(x, -1, 0, 1, 0, 0, 1, 0, 1, 2, 0, 2, 1);
        judged(x, 0, 1, 6, 1, 0, 1);
        judged(x, 0, 1, 6, 0, 3, 2);
        judged(x, 0, 1, 6, 255, 255, 2);
        judged(x, 0, 3, 6, 0, 2, 0);
        judged(x, 1, 4, 2, 0, 0, 1, 0, 0, 0);
        judged(x, 1, 5, 2, 0, 0, 1, 0, 1, 1, 9, 9, 2);
        judged(x, -2, -2, -2, 9, 9, 2, 0, 0, 3);
        due("nothing but the tape is changed", x.left(-1) * 10 + x.count(4), 31);
        x.knows(0, 6);
        judged(x, 0, 2, 6, 0, 0, 1);
        judged(x, -1, 0, 6, 0, 0, 2);
        feedBytes(x, 0, 0, 1);
        due("n 0", x.judge(0, 0), -3);
        due("n 41", x.judge(41, 0), -3);
        due("n -1", x.judge(-1, 0), -3);
        due("what 3", x.judge(1, 3), -3);
        due("what -1", x.judge(1, -1), -3);
        due("not so many", x.judge(7, 0), -3);
        due("the tape stays", x.count(3), 20);
        due("judge(6, 0)", x.judge(6, 0), 0);
        due("the tape is empty", x.count(3), 0);
        judged(x, -1, 0, 6, silentRows(40));
        tell(x, "n(1=1)");
        judged(x, 0, 5, 0, 0, 0, 2);
    }

    private static int[] silentRows(int n) {
        int[] bytes = new int[3 * n];
        for (int i = 2; i < bytes.length; i += 3) {
            bytes[i] = 2;
        }
        return bytes;
    }

    private static void seed() {
        promise(27);
        OwnHurt x = new OwnHurt();
        due("seed(65535)", x.seed(65535), true);
        due("count(5)", x.count(5), 65535);
        due("seed(65536)", x.seed(65536), false);
        due("seed(-1)", x.seed(-1), false);
        due("count(5)", x.count(5), 65535);
        x.person(0);
        x.draw(1);
        due("X goes on", x.count(5), (25173 * 65535 + 13849) % 65536);
        due("seed(0)", x.seed(0), true);
        due("count(5)", x.count(5), 0);
    }

    private static void draw() {
        promise(28);
        OwnHurt x = new OwnHurt();
        due("no people", x.draw(1), -1);
        x.facts(3);
        x.person(5);
        x.person(2);
        x.knows(1, 7);
        x.harm(1, 0, 0, 1);
        tell(x, ALL_SAY);
        due("draw(0)", x.draw(0), -1);
        due("draw(41)", x.draw(41), -1);
        due("X stays", x.count(5), 1);
        // X 39022: person 0, fact 4877 % 3 = 2; 61087: person 1, 7635 % 3 = 0; 20196: person 0, fact 1
        due("draw(3)", x.draw(3), 2);
        due("paid", x.paid(0) * 10 + x.paid(1), 101);
        feedBytes(x, 0, 0, 0, 0, 0, 0, 0, 2, 0, 0, 0, 2, 0, 0, 0, 1, 0, 0, 0, 0, 0, 0, 0, 0);
        due("the rows", x.check(2), 6);
        x.seed(7);
        int before = x.draw(36);
        int at = x.count(5);
        due("one more", x.draw(1) >= 0 && x.count(5) != at && before > 0, true);
        at = x.count(5);
        due("the book is full", x.draw(5), 0);
        due("X does not go on", x.count(5), at);
    }

    private static void check() {
        promise(29);
        OwnHurt x = court(3, 5, 9, "r1(v=1&x<2)");
        x.truth(1);
        due("an empty book", checked(x), -1);
        due("a row too many", checked(x, 0, 0, 1), 0);
        x.ask(0, 0);
        x.half(0, 1, 0);
        x.half(0, 2, 1);
        x.ask(0, 1);
        due("right", checked(x, 0, 0, 1, 0, 1, 3, 0, 2, 4, 0, 1, 2), -1);
        due("a person", checked(x, 0, 0, 1, 1, 1, 3, 0, 2, 4, 0, 1, 2), 3);
        due("a fact", checked(x, 0, 0, 1, 0, 1, 3, 0, 1, 4, 0, 1, 2), 7);
        due("an answer", checked(x, 0, 0, 1, 0, 1, 3, 0, 2, 4, 0, 1, 0), 11);
        due("four bytes", checked(x, 256, 0, 1), 0);
        due("the highest byte, too", checked(x, 0, 0, 1 + (1 << 24)), 2);
        due("some are lacking", checked(x, 0, 0, 1, 0, 1, 3), 6);
        due("some too many", checked(x, 0, 0, 1, 0, 1, 3, 0, 2, 4, 0, 1, 2, 0, 0, 0), 12);
        feedNumbers(x, 0, 0, 1);
        due("not so many", x.check(2), -2);
        due("much too many", x.check(Integer.MAX_VALUE), -2);
        due("many that wrap", x.check(1 << 30), -2);
        due("less than none", x.check(-1), -2);
        due("the tape stays", x.count(3), 20);
        due("none of a full book", x.check(0), 0);
        due("the tape is empty", x.count(3), 0);
    }

    private static void count() {
        promise(30);
        OwnHurt x = court(3, 5, 9, "n(a=0);n(b=1);" + ALL_SAY);
        x.truth(5);
        x.ask(0, 2);
        x.feed(0, 0, 0, 0, 0);
        x.seed(77);
        int[] at = {3, 1, 3, 20, 1, 77, 5, 7, -1, -1, 1023, -1, -1, -1, -1, -1, -1, -1, -1, -1, 5, -1};
        for (int i = 0; i < at.length; i++) {
            due("count(" + i + ")", x.count(i), at[i]);
        }
        x.person(6);
        due("count(11)", x.count(11), 0);
        due("count(21)", x.count(21), 6);
        due("count(15)", x.count(15), -1);
        due("count(25)", x.count(25), -1);
        due("count(-1)", x.count(-1), -1);
        due("count of much", x.count(Integer.MAX_VALUE), -1);
        due("count of little", x.count(Integer.MIN_VALUE), -1);
        x.back();
        due("proved ones", x.count(7), 3);
    }

    /** No call may throw, whatever it is given. */
    private static void extremes() {
        section("any call");
        int[] numbers = {Integer.MIN_VALUE, -1000000, -3, -1, 0, 1, 2, 9, 10, 40, 200, 1 << 30, Integer.MAX_VALUE};
        for (int a : numbers) {
            for (int b : numbers) {
                OwnHurt x = court(10, 5, 9, "n(a+b+c=3);r1(x<7);s[a*b+1]*9(1=1)");
                x.facts(a);
                x.truth(a);
                x.left(a);
                x.isLeft(a);
                x.proved(a);
                x.paid(a);
                x.sentence(a);
                x.fewest(a, b);
                x.ahead(a, b);
                x.alike(a, b);
                x.lesser(a, b);
                x.best(a, b);
                x.seed(a);
                x.draw(a);
                x.back();
                x.count(a);
                x.feed(a, b, a, b, a);
                x.judge(a, b);
                x.feed(a, b, a, b, a);
                x.check(a);
                x.feed(a, b, a, b, a);
                x.law(a);
                x.person(a);
                x.knows(a, b);
                x.ask(a, b);
                for (int c : numbers) {
                    x.would(a, b, c);
                    x.half(a, b, c);
                    x.tells(a, b, c);
                    x.harm(a, b, c, 7);
                    x.harm(a, b, 1, c);
                }
                due("it lives", x.count(0) > 0, true);
            }
        }
    }
}
