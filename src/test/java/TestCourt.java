import java.io.IOException;
import java.nio.file.Files;
import java.nio.file.Path;
import java.util.ArrayList;
import java.util.BitSet;
import java.util.List;

/** What the tests have in common: what is due, courts, texts and rows that are fed. */
abstract class TestCourt {
    static final String ALL_SAY = "r1(1=1)";
    static final int LEAST = Integer.MIN_VALUE;
    static final int MOST = Integer.MAX_VALUE;
    private static final Path DOCUMENT = Path.of("../shared/DOC.md");

    private record Quote(String section, String words) { }

    private static final List<Quote> QUOTES = new ArrayList<>();
    private static String where = "";
    private static String section = "";
    private static int checks = 0;
    private static int wrong = 0;

    static void promise(int number) {
        section = "Promise " + number + ":";
        where = section;
    }

    static void section(String heading) {
        section = heading;
        where = heading;
    }

    /** The words of the document that the checks behind this one hold it to. */
    static void sentence(String words) {
        QUOTES.add(new Quote(section, words));
        where = section + " \"" + words + "\":";
    }

    static void due(String call, int got, int want) {
        checks++;
        if (got != want) {
            wrong++;
            System.out.println(where + " " + call + " answered " + got + ", due is " + want);
        }
    }

    static void due(String call, boolean got, boolean want) {
        due(call, got ? 1 : 0, want ? 1 : 0);
    }

    static void due(String call, Object got, Object want) {
        checks++;
        if (!got.equals(want)) {
            wrong++;
            System.out.println(where + " " + call + " answered " + got + ", due is " + want);
        }
    }

    static void end() {
        System.out.println(checks + " checks, " + wrong + " wrong");
        System.exit(wrong == 0 ? 0 : 1);
    }

    /** Whether the sentences are the document's own, and whether all words of these sections stand in one. */
    static void compareWithDocument(String... sections) throws IOException {
        if (!Files.exists(DOCUMENT)) {
            System.out.println("no " + DOCUMENT + ", so the sentences are not compared with it");
            return;
        }
        String document = Files.readString(DOCUMENT);
        for (String heading : sections) {
            comparePart(heading, partOf(document, heading));
        }
    }

    private static String partOf(String document, String heading) {
        int from = document.indexOf("\n## " + heading);
        int to = document.indexOf("\n## ", from + 1);
        String part = from < 0 ? "" : document.substring(from, to < 0 ? document.length() : to);
        return part.replaceFirst("\n## .*", "").replaceAll("```\\w*|==== \\d\\.", "").replaceAll("`[^`]*`:?", " ")
            .replaceAll("\\s+", " ");
    }

    private static void comparePart(String heading, String part) {
        BitSet held = new BitSet();
        for (Quote quote : QUOTES) {
            if (quote.section().equals(heading)) {
                int at = part.indexOf(quote.words());
                where = heading;
                due("a place in the document of \"" + quote.words() + "\"", at >= 0, true);
                for (; at >= 0; at = part.indexOf(quote.words(), at + 1)) {
                    held.set(at, at + quote.words().length());
                }
            }
        }
        StringBuilder rest = new StringBuilder();
        for (int i = 0; i < part.length(); i++) {
            rest.append(held.get(i) ? ' ' : part.charAt(i));
        }
        String bare = rest.toString().replaceAll("[\\s.;:,()]+", " ").trim();
        due("words that no test holds it to (" + bare + ")", bare.length(), 0);
    }

    static void feedBytes(OwnHurt x, int... bytes) {
        for (int i = 0; i < bytes.length; i += 20) {
            int[] five = new int[5];
            for (int j = 0; j < 20; j++) {
                five[j / 4] = five[j / 4] << 8 | (i + j < bytes.length ? bytes[i + j] : 0);
            }
            x.feed(five[0], five[1], five[2], five[3], five[4]);
        }
    }

    static void feedText(OwnHurt x, String text) {
        feedBytes(x, text.chars().toArray());
    }

    static int tell(OwnHurt x, String text) {
        feedText(x, text);
        return x.law(text.length());
    }

    /** What a new court answers to a text. */
    static void read(String text, int answer) {
        due("law of " + text, tell(new OwnHurt(), text), answer);
    }

    /** Facts with one person that knows them all and is hurt by each as much as it says here. */
    static OwnHurt court(int facts, int silence, int harm, String text) {
        OwnHurt x = new OwnHurt();
        x.facts(facts);
        addPerson(x, silence, 1023, harm);
        if (!text.isEmpty()) {
            tell(x, text);
        }
        return x;
    }

    static int addPerson(OwnHurt x, int silence, int known, int harm) {
        int p = x.person(silence);
        x.knows(p, known);
        for (int f = 0; f < x.count(0); f++) {
            x.harm(p, f, 1, harm);
            x.harm(p, f, 0, harm);
        }
        return p;
    }

    /** The worlds left of up to five facts, a bit for each. */
    static int leftBits(OwnHurt x) {
        int bits = 0;
        int worlds = 1 << Math.min(5, x.count(0));
        for (int world = 0; world < worlds; world++) {
            bits |= x.isLeft(world) ? 1 << world : 0;
        }
        return bits;
    }

    static int bits(int... places) {
        int bits = 0;
        for (int place : places) {
            bits |= 1 << place;
        }
        return bits;
    }

    static void feedNumbers(OwnHurt x, int... numbers) {
        int[] bytes = new int[4 * numbers.length];
        for (int i = 0; i < bytes.length; i++) {
            bytes[i] = numbers[i / 4] >> 24 - i % 4 * 8 & 255;
        }
        feedBytes(x, bytes);
    }

    static int checked(OwnHurt x, int... numbers) {
        feedNumbers(x, numbers);
        return x.check(numbers.length / 3);
    }

    /** What a book of rows is judged to be, by each what. */
    static void judged(OwnHurt x, int row, int why, int worlds, int... bytes) {
        int[] answers = {row, why, worlds};
        for (int what = 0; what < 3; what++) {
            feedBytes(x, bytes);
            due("judge of " + bytes.length / 3 + " rows, what " + what, x.judge(bytes.length / 3, what), answers[what]);
        }
    }
}
