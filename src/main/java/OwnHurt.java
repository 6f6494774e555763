/** A court in which nothing is heard but what hurts him who says it. */
public final class OwnHurt {
    public static final int NONE = -1;

    private static final int MOST_FACTS = 10;
    private static final int MOST_KNOWN = 1023;
    private static final int MOST_COST = 99;
    private static final int MOST_SENTENCE = 999;
    private static final int MOST_DRAWN = 40;
    private static final int MOST_JUDGED = 40;
    private static final int MOST_SEED = 65535;

    private static final int SILENT = 2;
    private static final int HALF_SAID = 3;
    private static final int HALF_SILENT = 4;

    private static final int BOOK_IS_FULL = -2;
    private static final int NOTHING_PROVES = -2;
    private static final int NO_SUCH = -2;
    private static final int NEEDS_NO_QUESTION = -3;
    private static final int LACKING = -2;
    private static final int WRONG_ANSWER = -2;
    private static final int NOT_JUDGED = -3;

    private final Tape tape = new Tape();
    private final People people = new People();
    private final Book book = new Book();
    private final Machine machine = new Machine();
    private final Reader reader = new Reader();
    private final Proofs proofs = new Proofs();
    private final Plan plan = new Plan();
    private final Worlds possible = new Worlds();
    private final Worlds remaining = new Worlds();
    private final Worlds trial = new Worlds();
    private final Law inForce = new Law();
    private int factCount = 1;
    private int trueWorld = 0;
    private int drawn = 1;

    public OwnHurt() {
        startHearing();
    }

    public int facts(int n) {
        if (n < 1 || n > MOST_FACTS) {
            return NONE;
        }
        factCount = n;
        trueWorld = trueWorld & allFacts();
        startHearing();
        return remaining.size();
    }

    public boolean truth(int world) {
        if (world < 0 || world > allFacts()) {
            return false;
        }
        trueWorld = world;
        return true;
    }

    public int person(int silence) {
        if (silence < 0 || silence > MOST_COST) {
            return NONE;
        }
        return people.add(silence);
    }

    public boolean knows(int p, int facts) {
        if (!people.has(p) || facts < 0 || facts > MOST_KNOWN) {
            return false;
        }
        people.setKnown(p, facts);
        return true;
    }

    public boolean harm(int p, int fact, int value, int n) {
        if (!people.has(p) || fact < 0 || fact >= MOST_FACTS) {
            return false;
        }
        if (!isValue(value) || n < 0 || n > MOST_COST) {
            return false;
        }
        people.setHurt(p, fact, value, n);
        return true;
    }

    public int feed(int a, int b, int c, int d, int e) {
        if (!tape.takesFive()) {
            return NONE;
        }
        tape.append(a);
        tape.append(b);
        tape.append(c);
        tape.append(d);
        tape.append(e);
        return tape.size();
    }

    public int law(int n) {
        if (n < 1 || n > Law.MOST_BYTES || n > tape.size()) {
            return NONE;
        }
        int answer = reader.read(tape, n);
        tape.clear();
        if (answer > 0) {
            inForce.copy(reader.result());
            startHearing();
        }
        return answer;
    }

    public int would(int p, int fact, int value) {
        if (!people.has(p) || !isFact(fact) || !isValue(value)) {
            return NONE;
        }
        return wouldSay(p, fact, value) ? 1 : 0;
    }

    public int ask(int p, int fact) {
        if (!people.has(p) || !isFact(fact)) {
            return NONE;
        }
        if (book.isFull()) {
            return BOOK_IS_FULL;
        }
        return hear(p, fact);
    }

    public int half(int p, int f, int g) {
        if (!people.has(p) || !isFact(f) || !isFact(g) || f == g) {
            return NONE;
        }
        if (book.isFull()) {
            return BOOK_IS_FULL;
        }
        return hearHalf(p, f, g);
    }

    public boolean back() {
        int row = book.size() - 1;
        if (row < 0) {
            return false;
        }
        people.pay(book.personOf(row), -book.costOf(row));
        book.takeLast(remaining);
        return true;
    }

    public int anew() {
        int rows = book.size();
        takeAllBack();
        return rows;
    }

    public int left(int what) {
        return what == NONE ? remaining.size() : remaining.at(what);
    }

    public boolean isLeft(int world) {
        return remaining.has(world);
    }

    public int proved(int fact) {
        if (!isFact(fact)) {
            return NONE;
        }
        boolean canBeTrue = remaining.any(fact, 1);
        boolean canBeFalse = remaining.any(fact, 0);
        if (canBeTrue == canBeFalse) {
            return 2;
        }
        return canBeTrue ? 1 : 0;
    }

    public int tells(int p, int fact, int answer) {
        if (!people.has(p) || !isFact(fact) || answer < 0 || answer > SILENT) {
            return NONE;
        }
        trial.copy(remaining);
        narrow(trial, p, fact, answer);
        return trial.size();
    }

    public int paid(int p) {
        return people.has(p) ? people.spentBy(p) : NONE;
    }

    public int sentence(int p) {
        return people.has(p) ? sentenceBy(remaining, p, people.spentBy(p)) : NONE;
    }

    public int open() {
        return openFacts();
    }

    public int fewest(int fact, int what) {
        if (!isFact(fact) || what < 0 || what > 2 || remaining.isEmpty()) {
            return NONE;
        }
        if (proofs.proves(remaining, 0, fact, factCount)) {
            return what == 0 ? 0 : NEEDS_NO_QUESTION;
        }
        int open = openFacts();
        if (!proofs.proves(remaining, open, fact, factCount)) {
            return NOTHING_PROVES;
        }
        int number = 1;
        int first = proofs.firstAlone(remaining, open, fact, factCount);
        if (first == NONE) {
            plan.lay(remaining, open, fact, factCount);
            number = plan.questions();
            first = plan.firstFact();
        }
        if (what == 0) {
            return number;
        }
        return what == 1 ? first : firstWhoOpens(first);
    }

    public int ahead(int fact, int what) {
        if (!isFact(fact) || what < 0 || what > 1 || remaining.isEmpty()) {
            return NONE;
        }
        int open = openFacts();
        if (!proofs.proves(remaining, open, fact, factCount)) {
            return NOTHING_PROVES;
        }
        int set = proofs.leastSet(remaining, open, fact, factCount);
        return what == 0 ? Integer.bitCount(set) : set;
    }

    public int alike(int fact, int what) {
        if (!isFact(fact) || what < 0 || what > 1) {
            return NONE;
        }
        int open = openFacts();
        int first = proofs.firstAlike(remaining, open, fact, factCount);
        if (first == NONE) {
            return NO_SUCH;
        }
        return what == 0 ? first : twinOf(first, open, fact);
    }

    public int lesser(int p, int fact) {
        if (!people.has(p) || !isFact(fact) || !people.isKnown(p, fact)) {
            return NONE;
        }
        int least = people.hurtOf(p, fact, trueValue(fact));
        int found = NO_SUCH;
        for (int other = 0; other < factCount; other++) {
            int hurt = people.hurtOf(p, other, trueValue(other));
            if (other != fact && hurt < least && wouldSay(p, other, trueValue(other))) {
                least = hurt;
                found = other;
            }
        }
        return found;
    }

    public int best(int p, int what) {
        if (!people.has(p) || what < 0 || what > 1) {
            return NONE;
        }
        int sayable = sayable(p);
        int said = bestSet(p, sayable);
        return what == 0 ? costIfSaid(p, said, sayable) : said;
    }

    public int judge(int n, int what) {
        if (n < 1 || n > MOST_JUDGED || what < 0 || what > 2 || 3 * n > tape.size()) {
            return NOT_JUDGED;
        }
        int answer = hasWrongAnswer(n) ? WRONG_ANSWER : judgement(n, what);
        tape.clear();
        return answer;
    }

    public boolean seed(int x) {
        if (x < 0 || x > MOST_SEED) {
            return false;
        }
        drawn = x;
        return true;
    }

    public int draw(int n) {
        int persons = people.size();
        if (n < 1 || n > MOST_DRAWN || persons < 1 || factCount < 1) {
            return NONE;
        }
        int silent = 0;
        for (int i = 0; i < n && !book.isFull(); i++) {
            drawn = (25173 * drawn + 13849) & MOST_SEED;
            if (hear(drawn % persons, drawn / 8 % factCount) == SILENT) {
                silent++;
            }
        }
        return silent;
    }

    public int check(int n) {
        if (n < 0 || n > tape.size() / 12) {
            return LACKING;
        }
        int answer = firstWrong(3 * n);
        tape.clear();
        return answer;
    }

    public int count(int what) {
        switch (what) {
            case 0: return factCount;
            case 1: return people.size();
            case 2: return inForce.clauses();
            case 3: return tape.size();
            case 4: return book.size();
            case 5: return drawn;
            case 6: return trueWorld;
            case 7: return provedFacts(remaining);
            default: return countOfPerson(what);
        }
    }

    private int countOfPerson(int what) {
        if (what >= 10 && what < 20 && people.has(what - 10)) {
            return people.knownTo(what - 10);
        }
        if (what >= 20 && people.has(what - 20)) {
            return people.silenceOf(what - 20);
        }
        return NONE;
    }

    private int allFacts() {
        return (1 << factCount) - 1;
    }

    private boolean isFact(int fact) {
        return fact >= 0 && fact < factCount;
    }

    private static boolean isValue(int value) {
        return value == 0 || value == 1;
    }

    private int trueValue(int fact) {
        return trueWorld >> fact & 1;
    }

    /** All that can be is left again, and nothing has been asked or paid. */
    private void startHearing() {
        possible.clear();
        machine.clearLetters();
        int worlds = 1 << factCount;
        for (int world = 0; world < worlds; world++) {
            machine.setFacts(world);
            if (machine.firstThatHolds(inForce, 'n') == NONE) {
                possible.add(world);
            }
        }
        takeAllBack();
    }

    private void takeAllBack() {
        book.clear();
        people.clearSpent();
        remaining.copy(possible);
    }

    private boolean wouldSay(int p, int fact, int value) {
        if (!people.isKnown(p, fact) || people.hurtOf(p, fact, value) < 1) {
            return false;
        }
        machine.clearLetters();
        machine.set('p', p);
        machine.set('x', fact);
        machine.set('v', value);
        machine.set('y', people.hurtOf(p, fact, value));
        machine.set('z', people.silenceOf(p));
        machine.set('k', people.knowersOf(fact));
        machine.set('w', Integer.bitCount(people.knownTo(p)));
        int clause = machine.firstThatHolds(inForce, 'r');
        return machine.valueOf(inForce, clause, MOST_COST) > 0;
    }

    private int hear(int p, int fact) {
        int value = trueValue(fact);
        boolean says = wouldSay(p, fact, value);
        int answer = says ? value : SILENT;
        int cost = says ? people.hurtOf(p, fact, value) : people.silenceOf(p);
        book.write(p, fact, answer, cost, remaining);
        people.pay(p, cost);
        narrow(remaining, p, fact, answer);
        return answer;
    }

    private void narrow(Worlds worlds, int p, int fact, int answer) {
        if (answer != SILENT) {
            worlds.keep(fact, answer);
            return;
        }
        for (int value = 0; value < 2; value++) {
            if (wouldSay(p, fact, value)) {
                worlds.keep(fact, 1 - value);
            }
        }
    }

    private int hearHalf(int p, int f, int g) {
        boolean would = wouldSay(p, f, 1) && wouldSay(p, g, 1);
        boolean says = would && trueValue(f) + trueValue(g) > 0;
        int lesser = Math.min(people.hurtOf(p, f, 1), people.hurtOf(p, g, 1));
        int cost = says ? lesser : people.silenceOf(p);
        book.write(p, f, says ? HALF_SAID : HALF_SILENT, cost, remaining);
        people.pay(p, cost);
        if (says) {
            remaining.dropNeither(f, g);
        } else if (would) {
            remaining.keep(f, 0);
            remaining.keep(g, 0);
        }
        return says ? 1 : SILENT;
    }

    private int provedTrue(Worlds worlds) {
        int bits = 0;
        for (int fact = 0; fact < factCount; fact++) {
            if (worlds.any(fact, 1) && !worlds.any(fact, 0)) {
                bits = bits | 1 << fact;
            }
        }
        return bits;
    }

    private int provedFacts(Worlds worlds) {
        int bits = 0;
        for (int fact = 0; fact < factCount; fact++) {
            if (worlds.any(fact, 1) != worlds.any(fact, 0)) {
                bits = bits | 1 << fact;
            }
        }
        return bits;
    }

    private int sentenceBy(Worlds worlds, int p, int spent) {
        machine.clearLetters();
        machine.setFacts(provedTrue(worlds));
        machine.set('p', p);
        machine.set('m', Integer.bitCount(provedFacts(worlds)));
        machine.set('t', spent);
        int clause = machine.firstThatHolds(inForce, 's');
        return machine.valueOf(inForce, clause, MOST_SENTENCE);
    }

    private int firstWhoOpens(int fact) {
        for (int p = 0; p < people.size(); p++) {
            if (wouldSay(p, fact, 1) || wouldSay(p, fact, 0)) {
                return p;
            }
        }
        return NONE;
    }

    private int openFacts() {
        int bits = 0;
        for (int fact = 0; fact < factCount; fact++) {
            if (firstWhoOpens(fact) != NONE) {
                bits = bits | 1 << fact;
            }
        }
        return bits;
    }

    private int twinOf(int world, int open, int fact) {
        int mustDiffer = 1 << fact;
        int worlds = 1 << factCount;
        for (int other = 0; other < worlds; other++) {
            int differs = world ^ other;
            if ((differs & mustDiffer) != 0 && (differs & open) == 0 && remaining.has(other)) {
                return other;
            }
        }
        return NO_SUCH;
    }

    /** The facts that a person knows and would say, as they truly are. */
    private int sayable(int p) {
        int bits = 0;
        for (int fact = 0; fact < factCount; fact++) {
            if (wouldSay(p, fact, trueValue(fact))) {
                bits = bits | 1 << fact;
            }
        }
        return bits;
    }

    /** The set of least cost; a sentence is never below 0, so paying as much already is no better. */
    private int bestSet(int p, int sayable) {
        int best = 0;
        int least = costIfSaid(p, 0, sayable);
        for (int said = 1; said <= sayable; said++) {
            if ((said & ~sayable) == 0 && paysIfSaid(p, said, sayable) < least) {
                int cost = costIfSaid(p, said, sayable);
                if (cost < least) {
                    least = cost;
                    best = said;
                }
            }
        }
        return best;
    }

    private int paysIfSaid(int p, int said, int sayable) {
        int pays = people.silenceOf(p) * Integer.bitCount(sayable & ~said);
        for (int fact = 0; fact < factCount; fact++) {
            if ((said >> fact & 1) == 1) {
                pays += people.hurtOf(p, fact, trueValue(fact));
            }
        }
        return pays;
    }

    private int costIfSaid(int p, int said, int sayable) {
        int pays = paysIfSaid(p, said, sayable);
        trial.copy(remaining);
        for (int fact = 0; fact < factCount; fact++) {
            if ((said >> fact & 1) == 1) {
                trial.keep(fact, trueValue(fact));
            }
        }
        return pays + sentenceBy(trial, p, people.spentBy(p) + pays);
    }

    private boolean hasWrongAnswer(int rows) {
        for (int row = 0; row < rows; row++) {
            if (tape.byteAt(3 * row + 2) > SILENT) {
                return true;
            }
        }
        return false;
    }

    private int judgement(int rows, int what) {
        trial.copy(possible);
        for (int row = 0; row < rows; row++) {
            int size = trial.size();
            int why = whyNot(tape.byteAt(3 * row), tape.byteAt(3 * row + 1), tape.byteAt(3 * row + 2));
            if (why != 0) {
                return what == 0 ? row : what == 1 ? why : size;
            }
        }
        return what == 0 ? NONE : what == 1 ? 0 : trial.size();
    }

    /** Why a row can't be, or 0; the worlds on trial are cut down by it. */
    private int whyNot(int p, int fact, int answer) {
        if (!people.has(p) || !isFact(fact)) {
            return 1;
        }
        if (answer != SILENT) {
            if (!people.isKnown(p, fact)) {
                return 2;
            }
            if (people.hurtOf(p, fact, answer) < 1) {
                return 3;
            }
            if (!wouldSay(p, fact, answer)) {
                return 4;
            }
        }
        narrow(trial, p, fact, answer);
        return trial.isEmpty() ? 5 : 0;
    }

    private int firstWrong(int told) {
        int written = 3 * book.size();
        int both = Math.min(told, written);
        for (int i = 0; i < both; i++) {
            if (tape.numberAt(i) != book.numberAt(i)) {
                return i;
            }
        }
        return told == written ? NONE : both;
    }

    /** The bytes that are fed, till a call uses them up. */
    private static final class Tape {
        private static final int MOST = 220;
        private static final int MOST_AT_ONCE = 20;

        private final int[] bytes = new int[MOST];
        private int length = 0;

        int size() {
            return length;
        }

        void clear() {
            length = 0;
        }

        boolean takesFive() {
            return length + MOST_AT_ONCE <= MOST;
        }

        void append(int number) {
            for (int shift = 24; shift >= 0 && length < MOST; shift -= 8) {
                bytes[length] = number >> shift & 255;
                length++;
            }
        }

        /** A byte, or NONE behind the end. */
        int byteAt(int place) {
            return place >= 0 && place < length ? bytes[place] : NONE;
        }

        int numberAt(int place) {
            int number = 0;
            for (int i = 0; i < 4; i++) {
                number = number << 8 | byteAt(4 * place + i) & 255;
            }
            return number;
        }
    }

    /** Who there is, what each knows, and what each pays for what. */
    private static final class People {
        private static final int MOST = 5;

        private final int[] known = new int[MOST];
        private final int[] silences = new int[MOST];
        private final int[] spent = new int[MOST];
        private final int[] hurts = new int[MOST * MOST_FACTS * 2];
        private int number = 0;

        int size() {
            return number;
        }

        boolean has(int p) {
            return p >= 0 && p < number && number <= MOST;
        }

        int add(int silence) {
            if (number >= MOST) {
                return NONE;
            }
            silences[number] = silence;
            number++;
            return number - 1;
        }

        void setKnown(int p, int facts) {
            if (has(p)) {
                known[p] = facts;
            }
        }

        int knownTo(int p) {
            return has(p) ? known[p] : 0;
        }

        boolean isKnown(int p, int fact) {
            return has(p) && (known[p] >> fact & 1) == 1;
        }

        int knowersOf(int fact) {
            int knowers = 0;
            for (int p = 0; p < number; p++) {
                if (isKnown(p, fact)) {
                    knowers++;
                }
            }
            return knowers;
        }

        private static int placeOf(int p, int fact, int value) {
            return (p * MOST_FACTS + fact) * 2 + value;
        }

        void setHurt(int p, int fact, int value, int hurt) {
            int place = placeOf(p, fact, value);
            if (place >= 0 && place < hurts.length) {
                hurts[place] = hurt;
            }
        }

        int hurtOf(int p, int fact, int value) {
            int place = placeOf(p, fact, value);
            return place >= 0 && place < hurts.length ? hurts[place] : 0;
        }

        int silenceOf(int p) {
            return has(p) ? silences[p] : 0;
        }

        int spentBy(int p) {
            return has(p) ? spent[p] : 0;
        }

        void pay(int p, int cost) {
            if (has(p)) {
                spent[p] += cost;
            }
        }

        void clearSpent() {
            for (int p = 0; p < MOST; p++) {
                spent[p] = 0;
            }
        }
    }

    /** A set of worlds, a bit for each. */
    private static final class Worlds {
        private static final int MOST = 1024;
        private static final int WORDS = 16;
        /** Within a word of 64 worlds the first six facts go by turns as these bits do. */
        private static final int FACTS_IN_WORD = 6;
        private static final long[] TRUE_IN_WORD = {
            0xAAAAAAAAAAAAAAAAL, 0xCCCCCCCCCCCCCCCCL, 0xF0F0F0F0F0F0F0F0L,
            0xFF00FF00FF00FF00L, 0xFFFF0000FFFF0000L, 0xFFFFFFFF00000000L
        };

        private final long[] words = new long[WORDS];

        void clear() {
            for (int i = 0; i < WORDS; i++) {
                words[i] = 0;
            }
        }

        void copy(Worlds other) {
            for (int i = 0; i < WORDS; i++) {
                words[i] = other.words[i];
            }
        }

        long wordAt(int i) {
            return i >= 0 && i < WORDS ? words[i] : 0;
        }

        void setWord(int i, long word) {
            if (i >= 0 && i < WORDS) {
                words[i] = word;
            }
        }

        void add(int world) {
            if (world >= 0 && world < MOST) {
                words[world >> 6] |= 1L << (world & 63);
            }
        }

        boolean has(int world) {
            return world >= 0 && world < MOST && (words[world >> 6] >>> (world & 63) & 1) == 1;
        }

        boolean isEmpty() {
            for (int i = 0; i < WORDS; i++) {
                if (words[i] != 0) {
                    return false;
                }
            }
            return true;
        }

        int size() {
            int size = 0;
            for (int i = 0; i < WORDS; i++) {
                size += Long.bitCount(words[i]);
            }
            return size;
        }

        /** The place-th world by numbers, or NONE. */
        int at(int place) {
            if (place < 0) {
                return NONE;
            }
            int ahead = place;
            for (int i = 0; i < WORDS; i++) {
                int here = Long.bitCount(words[i]);
                if (ahead < here) {
                    return 64 * i + placeInWord(words[i], ahead);
                }
                ahead -= here;
            }
            return NONE;
        }

        private static int placeInWord(long word, int ahead) {
            long rest = word;
            for (int i = 0; i < ahead && i < 64; i++) {
                rest = rest & rest - 1;
            }
            return Long.numberOfTrailingZeros(rest);
        }

        /** Those worlds of a word in which a fact has a value. */
        private static long where(int i, int fact, int value) {
            long isTrue;
            if (fact >= 0 && fact < FACTS_IN_WORD) {
                isTrue = TRUE_IN_WORD[fact];
            } else {
                isTrue = (i >> fact - FACTS_IN_WORD & 1) == 1 ? -1L : 0L;
            }
            return value == 1 ? isTrue : ~isTrue;
        }

        boolean any(int fact, int value) {
            for (int i = 0; i < WORDS; i++) {
                if (words[i] != 0 && (words[i] & where(i, fact, value)) != 0) {
                    return true;
                }
            }
            return false;
        }

        void keep(int fact, int value) {
            for (int i = 0; i < WORDS; i++) {
                words[i] &= where(i, fact, value);
            }
        }

        void keepBoth(Worlds other) {
            for (int i = 0; i < WORDS; i++) {
                words[i] &= other.words[i];
            }
        }

        /** The worlds go in which two facts are both false. */
        void dropNeither(int f, int g) {
            for (int i = 0; i < WORDS; i++) {
                words[i] &= where(i, f, 1) | where(i, g, 1);
            }
        }

        /** With each world comes the one that differs from it in this fact alone. */
        void blur(int fact) {
            boolean inWord = fact < FACTS_IN_WORD;
            int step = inWord ? 0 : 1 << fact - FACTS_IN_WORD;
            for (int i = 0; i < WORDS; i++) {
                int twin = i ^ step;
                if (inWord) {
                    long whenTrue = words[i] & where(i, fact, 1);
                    long whenFalse = words[i] & where(i, fact, 0);
                    words[i] |= whenTrue >>> (1 << fact) | whenFalse << (1 << fact);
                } else if (twin > i && twin < WORDS) {
                    words[i] |= words[twin];
                    words[twin] = words[i];
                }
            }
        }
    }

    /** All that was asked, with the worlds that were left ahead of each row. */
    private static final class Book {
        private static final int MOST = 40;

        private final int[] numbers = new int[MOST * 3];
        private final int[] costs = new int[MOST];
        private final long[] before = new long[MOST * Worlds.WORDS];
        private int rows = 0;

        int size() {
            return rows;
        }

        boolean isFull() {
            return rows >= MOST;
        }

        void clear() {
            rows = 0;
        }

        int numberAt(int place) {
            return place >= 0 && place < 3 * rows ? numbers[place] : NONE;
        }

        int personOf(int row) {
            return numberAt(3 * row);
        }

        int costOf(int row) {
            return row >= 0 && row < rows ? costs[row] : 0;
        }

        void write(int p, int fact, int answer, int cost, Worlds worlds) {
            if (isFull()) {
                return;
            }
            numbers[3 * rows] = p;
            numbers[3 * rows + 1] = fact;
            numbers[3 * rows + 2] = answer;
            costs[rows] = cost;
            for (int i = 0; i < Worlds.WORDS; i++) {
                before[rows * Worlds.WORDS + i] = worlds.wordAt(i);
            }
            rows++;
        }

        void takeLast(Worlds worlds) {
            if (rows < 1) {
                return;
            }
            rows--;
            for (int i = 0; i < Worlds.WORDS; i++) {
                worlds.setWord(i, before[rows * Worlds.WORDS + i]);
            }
        }
    }

    /** What questions prove: an open fact that is asked always parts the worlds by its value. */
    private static final class Proofs {
        private final Worlds reached = new Worlds();

        /** Those of a value that no asked fact parts from one of the other value. */
        private void reach(Worlds left, int asked, int fact, int factCount, int value) {
            reached.copy(left);
            reached.keep(fact, 1 - value);
            for (int f = 0; f < factCount; f++) {
                if ((asked >> f & 1) == 0) {
                    reached.blur(f);
                }
            }
            reached.keep(fact, value);
            reached.keepBoth(left);
        }

        boolean proves(Worlds left, int asked, int fact, int factCount) {
            reach(left, asked, fact, factCount, 0);
            return reached.isEmpty();
        }

        /** The first open fact that alone proves it, or NONE. */
        int firstAlone(Worlds left, int open, int fact, int factCount) {
            for (int f = 0; f < factCount; f++) {
                if ((open >> f & 1) == 1 && proves(left, 1 << f, fact, factCount)) {
                    return f;
                }
            }
            return NONE;
        }

        /** The smallest and then least of the open facts that prove it, which all of them do. */
        int leastSet(Worlds left, int open, int fact, int factCount) {
            int best = open;
            int size = Integer.bitCount(open);
            for (int set = 0; set < open; set++) {
                boolean smaller = (set & ~open) == 0 && Integer.bitCount(set) < size;
                if (smaller && proves(left, set, fact, factCount)) {
                    best = set;
                    size = Integer.bitCount(set);
                }
            }
            return best;
        }

        /** The least world that no open fact parts from one of the other value, or NONE. */
        int firstAlike(Worlds left, int open, int fact, int factCount) {
            reach(left, open, fact, factCount, 0);
            int whenFalse = reached.at(0);
            reach(left, open, fact, factCount, 1);
            int whenTrue = reached.at(0);
            return whenFalse == NONE || whenTrue == NONE ? NONE : Math.min(whenFalse, whenTrue);
        }
    }

    /**
     * The fewest questions by what was answered. A state tells of each fact that may be asked
     * whether it was false, was true, or has not been asked: a number with a digit 0, 1, 2 for each.
     */
    private static final class Plan {
        private static final int MOST = 9;
        private static final int NOT_ASKED = 2;
        /** A mark up to here holds the values that are left (bits 1 and 2), one above it depth + 2. */
        private static final int SETTLED = 2;
        private static final int[] POWERS = {1, 3, 9, 27, 81, 243, 729, 2187, 6561, 19683};
        private static final int MARKS_IN_LONG = 16;

        private final long[] marks = new long[19683 / MARKS_IN_LONG + 1];
        private final int[] asked = new int[MOST];
        private final int[] digits = new int[MOST];
        private int size = 0;

        private int states() {
            return size >= 0 && size < POWERS.length ? POWERS[size] : 1;
        }

        private int markOf(int state) {
            int place = state >> 4;
            if (state < 0 || place >= marks.length) {
                return 0;
            }
            return (int) (marks[place] >>> 4 * (state & 15)) & 15;
        }

        private void addMark(int state, int mark) {
            int place = state >> 4;
            if (state >= 0 && place < marks.length) {
                marks[place] |= (long) mark << 4 * (state & 15);
            }
        }

        /** Reckons all states; the fact isn't open, and all open ones together prove it. */
        void lay(Worlds left, int open, int fact, int factCount) {
            choose(left, open, factCount);
            for (int i = 0; i <= states() >> 4 && i < marks.length; i++) {
                marks[i] = 0;
            }
            for (int world = 0; world < 1 << factCount; world++) {
                if (left.has(world)) {
                    addMark(stateOf(world), 1 << (world >> fact & 1));
                }
            }
            for (int i = 0; i < size; i++) {
                digits[i] = 0;
            }
            for (int state = 0; state < states(); state++) {
                addMark(state, weigh(state));
                nextDigits();
            }
        }

        /** A fact that is the same in all worlds left is never worth a question. */
        private void choose(Worlds left, int open, int factCount) {
            size = 0;
            for (int f = 0; f < factCount && size < MOST; f++) {
                if ((open >> f & 1) == 1 && left.any(f, 0) && left.any(f, 1)) {
                    asked[size] = f;
                    size++;
                }
            }
        }

        private int stateOf(int world) {
            int state = 0;
            for (int i = 0; i < size; i++) {
                state += (world >> asked[i] & 1) * POWERS[i];
            }
            return state;
        }

        private void nextDigits() {
            for (int i = 0; i < size; i++) {
                digits[i]++;
                if (digits[i] <= NOT_ASKED) {
                    return;
                }
                digits[i] = 0;
            }
        }

        /** The mark of a state by those of the states behind one more question. */
        private int weigh(int state) {
            int least = 0;
            for (int i = 0; i < size; i++) {
                if (digits[i] == NOT_ASKED) {
                    int whenFalse = markOf(state - 2 * POWERS[i]);
                    int whenTrue = markOf(state - POWERS[i]);
                    int deeper = Math.max(whenFalse, whenTrue);
                    // Two different values together are the mark of depth 1, and none is less deep.
                    if (deeper <= SETTLED) {
                        return whenFalse | whenTrue;
                    }
                    least = least == 0 ? deeper + 1 : Math.min(least, deeper + 1);
                }
            }
            return least;
        }

        int questions() {
            return Math.max(0, markOf(states() - 1) - SETTLED);
        }

        int firstFact() {
            int root = states() - 1;
            for (int i = 0; i < size; i++) {
                int deeper = Math.max(markOf(root - 2 * POWERS[i]), markOf(root - POWERS[i]));
                if (Math.max(deeper, SETTLED) + 1 == markOf(root)) {
                    return asked[i];
                }
            }
            return NONE;
        }
    }

    /** A law as steps for the machine: of each clause first those of its E, then those of its C. */
    private static final class Law {
        static final int MOST_BYTES = 200;
        static final int MOST_CLAUSES = 14;

        /** No byte of the text makes more than one step. */
        private final int[] steps = new int[MOST_BYTES];
        private final int[] kinds = new int[MOST_CLAUSES];
        private final int[] begins = new int[MOST_CLAUSES];
        private final int[] middles = new int[MOST_CLAUSES];
        private final int[] ends = new int[MOST_CLAUSES];
        private int length = 0;
        private int clauses = 0;

        void clear() {
            length = 0;
            clauses = 0;
        }

        void copy(Law other) {
            length = other.length;
            clauses = other.clauses;
            for (int i = 0; i < MOST_BYTES; i++) {
                steps[i] = other.steps[i];
            }
            for (int i = 0; i < MOST_CLAUSES; i++) {
                kinds[i] = other.kinds[i];
                begins[i] = other.begins[i];
                middles[i] = other.middles[i];
                ends[i] = other.ends[i];
            }
        }

        int clauses() {
            return clauses;
        }

        boolean isFull() {
            return clauses >= MOST_CLAUSES;
        }

        void begin(int kind) {
            if (!isFull()) {
                kinds[clauses] = kind;
                begins[clauses] = length;
            }
        }

        void turnToCondition() {
            if (!isFull()) {
                middles[clauses] = length;
            }
        }

        void end() {
            if (!isFull()) {
                ends[clauses] = length;
                clauses++;
            }
        }

        private boolean has(int clause) {
            return clause >= 0 && clause < clauses && clauses <= MOST_CLAUSES;
        }

        int kindOf(int clause) {
            return has(clause) ? kinds[clause] : NONE;
        }

        int beginOf(int clause) {
            return has(clause) ? begins[clause] : 0;
        }

        int middleOf(int clause) {
            return has(clause) ? middles[clause] : 0;
        }

        int endOf(int clause) {
            return has(clause) ? ends[clause] : 0;
        }

        int stepAt(int place) {
            return place >= 0 && place < length ? steps[place] : 0;
        }

        void add(int deed, int number) {
            if (length < MOST_BYTES) {
                steps[length] = number << 4 | deed;
                length++;
            }
        }

        /** A jump whose goal isn't known yet holds the jump ahead of it that has the same goal. */
        int addJump(int deed, int jumpAhead) {
            add(deed, jumpAhead);
            return length - 1;
        }

        void landHere(int lastJump) {
            int jump = lastJump;
            for (int i = 0; i < MOST_BYTES && jump >= 0 && jump < MOST_BYTES; i++) {
                int step = steps[jump];
                steps[jump] = length << 4 | step & 15;
                jump = step >> 4;
            }
        }
    }

    /** Works out laws, on a row of numbers and one yes or no. */
    private static final class Machine {
        static final int NUMBER = 0;
        static final int LETTER = 1;
        static final int PLUS = 2;
        static final int MINUS = 3;
        static final int TIMES = 4;
        static final int DIVIDE = 5;
        static final int REST = 6;
        static final int LESS = 7;
        static final int MORE = 8;
        static final int SAME = 9;
        static final int NOT = 10;
        static final int JUMP_IF_YES = 11;
        static final int JUMP_IF_NO = 12;

        private static final int LETTERS = 26;
        /** Six brackets keep two numbers waiting each; this is well above. */
        private static final int MOST_WAITING = 40;

        private final int[] letters = new int[LETTERS];
        private final int[] numbers = new int[MOST_WAITING];
        private int top = 0;
        private boolean yes = false;

        void clearLetters() {
            for (int i = 0; i < LETTERS; i++) {
                letters[i] = 0;
            }
        }

        void set(int letter, int value) {
            int place = letter - 'a';
            if (place >= 0 && place < LETTERS) {
                letters[place] = value;
            }
        }

        void setFacts(int bits) {
            for (int fact = 0; fact < MOST_FACTS; fact++) {
                letters[fact] = bits >> fact & 1;
            }
        }

        /** The first clause of a kind that holds, or NONE. */
        int firstThatHolds(Law law, int kind) {
            for (int i = 0; i < law.clauses(); i++) {
                if (law.kindOf(i) == kind && run(law, law.middleOf(i), law.endOf(i)) && yes) {
                    return i;
                }
            }
            return NONE;
        }

        /** What a clause says, from 0 to a bound; 0 of none. */
        int valueOf(Law law, int clause, int most) {
            boolean right = run(law, law.beginOf(clause), law.middleOf(clause)) && top == 1;
            return right ? Math.max(0, Math.min(most, numbers[0])) : 0;
        }

        /** False if something was to be divided by 0. */
        private boolean run(Law law, int from, int to) {
            top = 0;
            yes = false;
            int at = from;
            for (int i = 0; i < Law.MOST_BYTES && at < to; i++) {
                int step = law.stepAt(at);
                int deed = step & 15;
                int number = step >> 4;
                at++;
                if (deed == NUMBER) {
                    push(number);
                } else if (deed == LETTER) {
                    push(number >= 0 && number < LETTERS ? letters[number] : 0);
                } else if (deed == NOT) {
                    yes = !yes;
                } else if (deed == JUMP_IF_YES) {
                    at = yes ? number : at;
                } else if (deed == JUMP_IF_NO) {
                    at = yes ? at : number;
                } else if (!join(deed)) {
                    return false;
                }
            }
            return true;
        }

        private void push(int number) {
            if (top >= 0 && top < MOST_WAITING) {
                numbers[top] = number;
                top++;
            }
        }

        /** Takes the last two numbers together; false if that would be a division by 0. */
        private boolean join(int deed) {
            if (top < 2 || top > MOST_WAITING) {
                return false;
            }
            int a = numbers[top - 2];
            int b = numbers[top - 1];
            if (b == 0 && (deed == DIVIDE || deed == REST)) {
                return false;
            }
            int joined = 0;
            switch (deed) {
                case PLUS: joined = a + b; break;
                case MINUS: joined = a - b; break;
                case TIMES: joined = a * b; break;
                case DIVIDE: joined = b == 0 ? 0 : a / b; break;
                case REST: joined = b == 0 ? 0 : a % b; break;
                case LESS: yes = a < b; break;
                case MORE: yes = a > b; break;
                default: yes = a == b; break;
            }
            numbers[top - 2] = joined;
            // A comparison leaves no number behind.
            top = deed >= LESS ? top - 2 : top - 1;
            return true;
        }
    }

    /** Reads a law's text from the tape and writes its steps, up to the first fault. */
    private static final class Reader {
        private static final int CAN_NOT_STAND = 1;
        private static final int SIXTH_DIGIT = 2;
        private static final int FIFTEENTH_CLAUSE = 4;
        private static final int SEVENTH_OPEN = 5;

        private static final int MOST_OPEN = 6;
        private static final int MOST_DIGITS = 5;
        private static final int END = -1;
        private static final String LETTERS = "abcdefghijkmptvwxyz";

        private final int[] signs = new int[Law.MOST_BYTES];
        /** Written apart from the law in force, which a faulty text must leave as it is. */
        private final Law law = new Law();
        private int length = 0;
        private int at = 0;
        private int fault = 0;

        /** How many clauses, or the fault as the document numbers it. */
        int read(Tape tape, int n) {
            length = Math.min(n, Law.MOST_BYTES);
            for (int i = 0; i < length; i++) {
                signs[i] = tape.byteAt(i);
            }
            at = 0;
            fault = 0;
            law.clear();
            readClause();
            for (int i = 0; i < Law.MOST_CLAUSES && fault == 0 && at < length; i++) {
                take(';');
                readClause();
            }
            return fault == 0 ? law.clauses() : fault;
        }

        Law result() {
            return law;
        }

        private int next() {
            return at >= 0 && at < length && at < signs.length ? signs[at] : END;
        }

        private void fail(int number) {
            if (fault == 0) {
                fault = -1000 * number - at;
            }
        }

        private void take(int sign) {
            if (next() == sign) {
                at++;
            } else {
                fail(CAN_NOT_STAND);
            }
        }

        private boolean takeOpening(int depth) {
            if (depth >= MOST_OPEN) {
                fail(SEVENTH_OPEN);
                return false;
            }
            at++;
            return true;
        }

        private void readClause() {
            int kind = next();
            if (fault != 0) {
                return;
            }
            if (kind != 'n' && kind != 'r' && kind != 's') {
                fail(CAN_NOT_STAND);
            } else if (law.isFull()) {
                fail(FIFTEENTH_CLAUSE);
            } else {
                at++;
                law.begin(kind);
                if (kind != 'n') {
                    readSum(0);
                }
                law.turnToCondition();
                take('(');
                readChoice(1);
                take(')');
                law.end();
            }
        }

        /** C: as soon as a part holds, the rest is jumped over. */
        private void readChoice(int depth) {
            int jump = NONE;
            readPart(depth);
            for (int i = 0; i < length && fault == 0 && next() == '|'; i++) {
                at++;
                jump = law.addJump(Machine.JUMP_IF_YES, jump);
                readPart(depth);
            }
            law.landHere(jump);
        }

        private void readPart(int depth) {
            int jump = NONE;
            readPiece(depth);
            for (int i = 0; i < length && fault == 0 && next() == '&'; i++) {
                at++;
                jump = law.addJump(Machine.JUMP_IF_NO, jump);
                readPiece(depth);
            }
            law.landHere(jump);
        }

        private void readPiece(int depth) {
            int sign = next();
            if (fault != 0 || depth > MOST_OPEN) {
                return;
            }
            if (sign == '!') {
                if (takeOpening(depth)) {
                    readPiece(depth + 1);
                    law.add(Machine.NOT, 0);
                }
            } else if (sign == '(') {
                if (takeOpening(depth)) {
                    readChoice(depth + 1);
                    take(')');
                }
            } else {
                readSum(depth);
                int deed = readComparing();
                readSum(depth);
                law.add(deed, 0);
            }
        }

        private int readComparing() {
            int sign = next();
            if (sign != '<' && sign != '>' && sign != '=') {
                fail(CAN_NOT_STAND);
            } else if (fault == 0) {
                at++;
            }
            return sign == '<' ? Machine.LESS : sign == '>' ? Machine.MORE : Machine.SAME;
        }

        private void readSum(int depth) {
            readTerm(depth);
            for (int i = 0; i < length && fault == 0; i++) {
                int sign = next();
                if (sign != '+' && sign != '-') {
                    return;
                }
                at++;
                readTerm(depth);
                law.add(sign == '+' ? Machine.PLUS : Machine.MINUS, 0);
            }
        }

        private void readTerm(int depth) {
            readFactor(depth);
            for (int i = 0; i < length && fault == 0; i++) {
                int sign = next();
                if (sign != '*' && sign != '/' && sign != '%') {
                    return;
                }
                at++;
                readFactor(depth);
                law.add(sign == '*' ? Machine.TIMES : sign == '/' ? Machine.DIVIDE : Machine.REST, 0);
            }
        }

        private void readFactor(int depth) {
            int sign = next();
            if (fault != 0 || depth > MOST_OPEN) {
                return;
            }
            if (sign == '[') {
                if (takeOpening(depth)) {
                    readSum(depth + 1);
                    take(']');
                }
            } else if (isDigit(sign)) {
                readNumber();
            } else if (sign > 0 && LETTERS.indexOf((char) sign) >= 0) {
                at++;
                law.add(Machine.LETTER, sign - 'a');
            } else {
                fail(CAN_NOT_STAND);
            }
        }

        private static boolean isDigit(int sign) {
            return sign >= '0' && sign <= '9';
        }

        private void readNumber() {
            int number = 0;
            for (int i = 0; i < MOST_DIGITS && isDigit(next()); i++) {
                number = 10 * number + next() - '0';
                at++;
            }
            if (isDigit(next())) {
                fail(SIXTH_DIGIT);
            }
            law.add(Machine.NUMBER, number);
        }
    }
}
