import java.util.Arrays;
import java.util.NoSuchElementException;

/**
 * A ferry by rhyme. What each call promises stands in the project's document, DOC.md; README.md
 * says how to use the class. Words, people, hours and images are numbered from 0, and a set of
 * words or people is told as bits, number 0 being the lowest one.
 */
public final class RhymeFerry {
    public static final int NONE = -1;

    /** The answer of a call that is not refused and yet finds nothing. */
    private static final int NOTHING = -2;

    private static final int TAPE_BYTES = 900;
    private static final int FED_BYTES = 20;
    private static final int WORDS = 10;
    private static final int PEOPLE = 8;
    private static final int KNOWINGS = 8;
    private static final int ALIKES = 4;
    private static final int HOURS_TOLD = 8;
    private static final int GOTS = 6;
    private static final int HOURS = 24;
    private static final int EARS = 6;
    private static final int PRICES = 10;
    private static final int ACTS = 16;
    private static final int IMAGES = 3;
    private static final int SEEDS = 65537;

    private static final int NAME_LETTERS = 8;
    private static final int WHOLE_DIGITS = 3;
    private static final int SOUND_LETTERS = 8;
    /** A text of letters is kept as one number, five bits a letter, the last letter lowest. */
    private static final int LETTER_BITS = 5;
    private static final int LETTER_MASK = 31;

    private static final int PLAIN = 0;
    private static final int DEAF = 1;
    private static final int CHILD = 2;
    private static final int POET = 3;

    private static final int NEAR = 0;
    private static final int FAR = 1;

    private static final int NOT_AT_ALL = 0;
    private static final int BY_HALF = 1;
    private static final int FULLY = 2;

    private static final int NONE_SUCH = 1;
    private static final int BAD_NUMBER = 2;
    private static final int NO_ROOM = 3;
    private static final int FAULTY = 4;
    private static final int NOT_SO = 5;
    private static final int NO_ACT = 6;

    private final byte[] tape = new byte[TAPE_BYTES];
    private final Now now = new Now();
    private final Rhymes rhymes = new Rhymes(now);
    private final Pairing pairing = new Pairing();
    private final Purse purse = new Purse(rhymes, pairing);
    private final Hearing hearing = new Hearing(rhymes);
    private final Sellers sellers = new Sellers(rhymes);
    private final Days days = new Days(rhymes, pairing);
    private final Shelf acts = new Shelf(ACTS);
    private final Shelf images = new Shelf(IMAGES);
    private Tale tale = rhymes.tale;
    private Tale draft = new Tale();
    private final Reader reader = new Reader(tape, draft);
    private int tapeLength = 0;
    private int lastFault = 0;
    private int faultPlace = 0;
    private int lastTrouble = 0;

    public RhymeFerry() {
    }

    // ---- the ferry

    public int feed(int a, int b, int c, int d, int e) {
        if (tapeLength + FED_BYTES > TAPE_BYTES) {
            return NONE;
        }
        append(a);
        append(b);
        append(c);
        append(d);
        append(e);
        return tapeLength;
    }

    public int ferry(int n) {
        if (refused(true, n >= 0 && n <= tapeLength)) {
            return NONE;
        }
        tapeLength = 0;
        reader.read(draft, n);
        lastFault = reader.fault;
        faultPlace = reader.faultPlace;
        if (lastFault != 0) {
            return refuse(FAULTY);
        }
        Tale former = tale;
        tale = draft;
        draft = former;
        tale.compareWords();
        rhymes.tale = tale;
        now.begin(tale);
        acts.clear();
        images.clear();
        return tale.personCount;
    }

    public int fault() {
        return lastFault;
    }

    public int where() {
        return lastTrouble == FAULTY ? faultPlace : NONE;
    }

    // ---- words, people

    public int word(int w, int what) {
        if (refused(isWord(w) && what >= 0 && what <= 2, true)) {
            return NONE;
        }
        switch (what) {
            case 0:
                return tale.prices[w];
            case 1:
                return Tale.lettersOf(tale.sounds[w]);
            default:
                return now.whoHas(w);
        }
    }

    public int like(int w, int u) {
        if (refused(isWord(w) && isWord(u), true)) {
            return NONE;
        }
        return tale.common(Tale.BY_SOUND, w, u);
    }

    public int eye(int w, int u) {
        if (refused(isWord(w) && isWord(u), true)) {
            return NONE;
        }
        return tale.common(Tale.BY_EYE, w, u);
    }

    public int person(int p, int what) {
        if (refused(isPerson(p) && what >= 0 && what <= 4, true)) {
            return NONE;
        }
        switch (what) {
            case 0:
                return tale.kinds[p];
            case 1:
                return now.bankOf(p);
            case 2:
                return now.words[p];
            case 3:
                return now.wet[p];
            default:
                return tale.errands[p];
        }
    }

    public int ear(int hour) {
        if (refused(hasFerry(), isHour(hour))) {
            return NONE;
        }
        return tale.earAt(hour);
    }

    public int rhyme(int p, int q, int hour) {
        if (refused(isPair(p, q), isHour(hour))) {
            return NONE;
        }
        return rhymes.degree(p, q, tale.earAt(hour));
    }

    public int with(int p, int hour) {
        if (refused(isPerson(p), isHour(hour))) {
            return NONE;
        }
        return rhymes.metNow(p, tale.earAt(hour));
    }

    public int bestHour(int p) {
        if (refused(isPerson(p), true)) {
            return NONE;
        }
        return rhymes.hourOfMost(p);
    }

    public int classOf(int p, int hour) {
        if (refused(isPerson(p), isHour(hour))) {
            return NONE;
        }
        rhymes.link(tale.earAt(hour));
        return rhymes.groupOf(p);
    }

    public int classes(int hour) {
        if (refused(hasFerry(), isHour(hour))) {
            return NONE;
        }
        rhymes.link(tale.earAt(hour));
        return rhymes.groupCount();
    }

    public int bestName(int p, int hour) {
        if (refused(isPerson(p), isHour(hour))) {
            return NONE;
        }
        return rhymes.wordOfMost(p, tale.earAt(hour));
    }

    public int renamed(int p, int w, int hour) {
        if (refused(isPerson(p) && isWord(w), isHour(hour))) {
            return NONE;
        }
        return rhymes.metBy(p, 1 << w, 0, tale.earAt(hour));
    }

    public int meets(int p, int q) {
        if (refused(isPair(p, q), true)) {
            return NONE;
        }
        return rhymes.firstHour(p, q);
    }

    public int often(int p, int q) {
        if (refused(isPair(p, q), true)) {
            return NONE;
        }
        return rhymes.hourCount(p, q);
    }

    public int cheapest(int p, int hour) {
        if (refused(isPerson(p), isHour(hour))) {
            return NONE;
        }
        return rhymes.cheapestGain(p, tale.earAt(hour));
    }

    // ---- pairs

    public int pairs(int bank, int hour) {
        if (refused(isBank(bank), isHour(hour))) {
            return NONE;
        }
        rhymes.link(tale.earAt(hour));
        return pairing.most(rhymes.links, now.onBank(bank));
    }

    public int partner(int p, int bank, int hour) {
        if (refused(isPerson(p) && isBank(bank), isHour(hour))) {
            return NONE;
        }
        rhymes.link(tale.earAt(hour));
        pairing.pairFirst(rhymes.links, now.onBank(bank));
        return pairing.partners[p];
    }

    public int alone(int bank, int hour) {
        if (refused(isBank(bank), isHour(hour))) {
            return NONE;
        }
        return rhymes.lonely(now.onBank(bank), tale.earAt(hour));
    }

    public int kept(int hour) {
        if (refused(hasFerry(), isHour(hour))) {
            return NONE;
        }
        rhymes.link(tale.earAt(hour));
        return pairing.mostKept(rhymes.links, now.onBank(NEAR), tale);
    }

    public int judge() {
        if (refused(hasFerry(), true)) {
            return NONE;
        }
        return hearing.firstUntrue(tale.ear);
    }

    // ---- words bought

    public int coins(int bank, int hour) {
        if (refused(isBank(bank), isHour(hour))) {
            return NONE;
        }
        return purse.leastCoins(now.onBank(bank), tale.earAt(hour));
    }

    public int keep(int bank, int hour) {
        if (refused(isBank(bank), isHour(hour))) {
            return NONE;
        }
        purse.planPairs(now.onBank(bank), tale.earAt(hour));
        return purse.fewest(false);
    }

    public int refrain(int bank, int hour) {
        if (refused(isBank(bank), isHour(hour))) {
            return NONE;
        }
        purse.planSinging(now.onBank(bank), tale.earAt(hour));
        return purse.fewest(true);
    }

    // ---- what ear he has

    public int heard() {
        if (refused(hasFerry(), true)) {
            return NONE;
        }
        return Integer.bitCount(hearing.ears());
    }

    public int heardEar(boolean most) {
        if (refused(hasFerry(), true)) {
            return NONE;
        }
        return hearing.endOf(hearing.ears(), most);
    }

    public int ask() {
        if (refused(hasFerry(), true)) {
            return NONE;
        }
        hearing.seekQuestion(hearing.ears());
        return hearing.question;
    }

    public int askLeaves() {
        if (refused(hasFerry(), true)) {
            return NONE;
        }
        hearing.seekQuestion(hearing.ears());
        return hearing.leaves;
    }

    // ---- sellers

    public int sells(int w, int price, int u, int others, int hour, boolean other) {
        if (refused(isTwoWords(w, u), isPrice(price) && isPrice(others) && isHour(hour))) {
            return NONE;
        }
        sellers.countBuyers(w, u, tale.earAt(hour));
        return other ? sellers.secondHas(price, others) : sellers.firstHas(price, others);
    }

    public int rests(int w, int u, int hour) {
        if (refused(isTwoWords(w, u), isHour(hour))) {
            return NONE;
        }
        sellers.countBuyers(w, u, tale.earAt(hour));
        return sellers.restCount();
    }

    public int rest(int w, int u, int hour) {
        if (refused(isTwoWords(w, u), isHour(hour))) {
            return NONE;
        }
        sellers.countBuyers(w, u, tale.earAt(hour));
        return sellers.firstRest();
    }

    // ---- days

    public int day(int seed, int n) {
        if (refused(hasFerry(), isDay(seed, n))) {
            return NONE;
        }
        return days.pass(seed, n);
    }

    public int crossedIn(int p, int seed, int n) {
        if (refused(isPerson(p), isDay(seed, n))) {
            return NONE;
        }
        days.pass(seed, n);
        return days.crossings[p];
    }

    // ---- acts

    public int cross(int p, int q) {
        if (refused(isPair(p, q), true)) {
            return NONE;
        }
        int degree = rhymes.degree(p, q, tale.earAt(now.hour));
        if (now.bankOf(p) != now.bankOf(q) || degree == NOT_AT_ALL) {
            return refuse(NOT_SO);
        }
        acts.push(now);
        now.carryOver(p);
        now.carryOver(q);
        if (degree == BY_HALF) {
            now.wet[p]++;
            now.wet[q]++;
        }
        return degree;
    }

    public int buy(int p, int w) {
        if (refused(isPerson(p) && isWord(w), true)) {
            return NONE;
        }
        if (now.has(p, w)) {
            return refuse(NOT_SO);
        }
        acts.push(now);
        now.words[p] |= 1 << w;
        now.paid += tale.prices[w];
        return now.paid;
    }

    public int hours(int n) {
        if (refused(hasFerry(), n >= 1 && n < HOURS)) {
            return NONE;
        }
        acts.push(now);
        now.hour = (now.hour + n) % HOURS;
        return now.hour;
    }

    public boolean undo() {
        lastTrouble = acts.count == 0 ? NO_ACT : 0;
        if (acts.count == 0) {
            return false;
        }
        acts.pop(now);
        return true;
    }

    public int image() {
        if (refused(hasFerry(), true)) {
            return NONE;
        }
        if (images.count >= IMAGES) {
            return refuse(NO_ROOM);
        }
        images.push(now);
        return images.count - 1;
    }

    public boolean back(int image) {
        if (refused(image >= 0 && image < images.count, true)) {
            return false;
        }
        images.copyTo(image, now);
        acts.clear();
        return true;
    }

    // ---- what is told

    public int led(int i) throws NoSuchElementException {
        int before = 0;
        for (int p = 0; p < tale.personCount; p++) {
            if (now.wet[p] > 0) {
                if (before == i) {
                    return p;
                }
                before++;
            }
        }
        throw new NoSuchElementException();
    }

    public int size(int what) {
        switch (what) {
            case 0: return tale.ear;
            case 1: return tale.pairs;
            case 2: return tale.wordCount;
            case 3: return tale.personCount;
            case 4: return tale.alikeCount;
            case 5: return tale.hoursTold();
            case 6: return tale.errandsTold();
            case 7: return tale.gotCount;
            case 8: return now.hour;
            case 9: return now.paid;
            case 10: return acts.count;
            case 11: return images.count;
            case 12: return tapeLength;
            default: return NONE;
        }
    }

    public int trouble() {
        return lastTrouble;
    }

    // ---- what calls may be refused by

    private boolean refused(boolean known, boolean inBounds) {
        lastTrouble = !known ? NONE_SUCH : !inBounds ? BAD_NUMBER : 0;
        return lastTrouble != 0;
    }

    private int refuse(int number) {
        lastTrouble = number;
        return NONE;
    }

    private boolean hasFerry() {
        return tale.personCount > 0;
    }

    private boolean isWord(int w) {
        return w >= 0 && w < tale.wordCount;
    }

    private boolean isTwoWords(int w, int u) {
        return isWord(w) && isWord(u) && w != u;
    }

    private boolean isPerson(int p) {
        return p >= 0 && p < tale.personCount;
    }

    private boolean isPair(int p, int q) {
        return isPerson(p) && isPerson(q) && p != q;
    }

    private boolean isBank(int bank) {
        return hasFerry() && (bank == NEAR || bank == FAR);
    }

    private boolean isHour(int hour) {
        return hour >= 0 && hour < HOURS;
    }

    private boolean isPrice(int price) {
        return price >= 0 && price < PRICES;
    }

    private boolean isDay(int seed, int n) {
        return seed >= 0 && seed < SEEDS && n >= 0 && n <= HOURS;
    }

    private void append(int number) {
        for (int shift = 24; shift >= 0; shift -= 8) {
            if (tapeLength < TAPE_BYTES) {
                tape[tapeLength] = (byte) (number >> shift);
                tapeLength++;
            }
        }
    }

    private static boolean holds(int bits, int i) {
        return (bits >> i & 1) == 1;
    }

    /** What a text has told. Two are made: a new text is read into one while the other stands. */
    private static final class Tale {
        static final int BY_SOUND = 0;
        static final int BY_EYE = 1;
        /** Nobody is ever asked for more letters in common: ear 6, and one more by a draw. */
        private static final int MOST_ASKED = 7;

        final long[] wordNames = new long[WORDS];
        final long[] sounds = new long[WORDS];
        final int[] prices = new int[WORDS];
        final long[] personNames = new long[PEOPLE];
        final int[] kinds = new int[PEOPLE];
        final int[] firstWords = new int[PEOPLE];
        final int[] errands = new int[PEOPLE];
        final int[] alikes = new int[LETTER_MASK + 1];
        final int[] hourEars = new int[HOURS];
        final int[] gotFirst = new int[GOTS];
        final int[] gotSecond = new int[GOTS];
        final int[] gotDegree = new int[GOTS];
        /** For a measure, letters asked for and a word: the words that have as many in common. */
        private final int[] close = new int[2 * (MOST_ASKED + 1) * WORDS];
        int ear = 0;
        int pairs = 0;
        int wordCount = 0;
        int personCount = 0;
        int firstFar = 0;
        int alikeCount = 0;
        int gotCount = 0;

        void forget() {
            Arrays.fill(alikes, 0);
            Arrays.fill(hourEars, 0);
            ear = 0;
            pairs = 0;
            wordCount = 0;
            personCount = 0;
            firstFar = 0;
            alikeCount = 0;
            gotCount = 0;
        }

        void addWord(long name, long itsSounds, int price) {
            if (wordCount < WORDS) {
                wordNames[wordCount] = name;
                sounds[wordCount] = itsSounds;
                prices[wordCount] = price;
                wordCount++;
            }
        }

        void addPerson(long name, int kind, boolean far, int w) {
            if (personCount < PEOPLE) {
                personNames[personCount] = name;
                kinds[personCount] = kind;
                firstWords[personCount] = 1 << w;
                errands[personCount] = 0;
                firstFar |= far ? 1 << personCount : 0;
                personCount++;
            }
        }

        void addAlike(int letter, int another) {
            alikes[letter & LETTER_MASK] |= 1 << another;
            alikes[another & LETTER_MASK] |= 1 << letter;
            alikeCount++;
        }

        void addGot(int p, int q, int degree) {
            if (gotCount < GOTS) {
                gotFirst[gotCount] = p;
                gotSecond[gotCount] = q;
                gotDegree[gotCount] = degree;
                gotCount++;
            }
        }

        int wordNamed(long name) {
            for (int w = 0; w < wordCount; w++) {
                if (wordNames[w] == name) {
                    return w;
                }
            }
            return NONE;
        }

        int personNamed(long name) {
            for (int p = 0; p < personCount; p++) {
                if (personNames[p] == name) {
                    return p;
                }
            }
            return NONE;
        }

        boolean isAlike(int letter, int another) {
            return letter == another || holds(alikes[letter & LETTER_MASK], another);
        }

        int earAt(int hour) {
            return hourEars[hour] > 0 ? hourEars[hour] : ear;
        }

        int hoursTold() {
            int count = 0;
            for (int hour = 0; hour < HOURS; hour++) {
                count += hourEars[hour] > 0 ? 1 : 0;
            }
            return count;
        }

        int errandsTold() {
            int count = 0;
            for (int p = 0; p < personCount; p++) {
                count += errands[p] > 0 ? 1 : 0;
            }
            return count;
        }

        static int lettersOf(long text) {
            int count = 0;
            while (count < NAME_LETTERS && text >>> LETTER_BITS * count != 0) {
                count++;
            }
            return count;
        }

        /** How many letters two words have in common from the end on, by sounds or by names. */
        int common(int measure, int w, int u) {
            long a = measure == BY_SOUND ? sounds[w] : wordNames[w];
            long b = measure == BY_SOUND ? sounds[u] : wordNames[u];
            int count = 0;
            while (count < NAME_LETTERS && a != 0 && b != 0) {
                int letter = (int) (a & LETTER_MASK);
                int another = (int) (b & LETTER_MASK);
                if (letter != another && (measure == BY_EYE || !isAlike(letter, another))) {
                    return count;
                }
                a >>>= LETTER_BITS;
                b >>>= LETTER_BITS;
                count++;
            }
            return count;
        }

        void compareWords() {
            Arrays.fill(close, 0);
            for (int w = 0; w < wordCount; w++) {
                for (int u = 0; u < wordCount; u++) {
                    noteCommon(BY_SOUND, w, u);
                    noteCommon(BY_EYE, w, u);
                }
            }
        }

        private void noteCommon(int measure, int w, int u) {
            int letters = common(measure, w, u);
            for (int asked = 0; asked <= letters && asked <= MOST_ASKED; asked++) {
                close[(measure * (MOST_ASKED + 1) + asked) * WORDS + w] |= 1 << u;
            }
        }

        /** The words by any of which one of a kind rhymes fully with another who has w. */
        int rhymingWords(int w, int kind, int another, int earNow) {
            if (kind == CHILD || another == CHILD) {
                return (1 << wordCount) - 1;
            }
            int measure = kind == DEAF || another == DEAF ? BY_EYE : BY_SOUND;
            int asked = kind == POET || another == POET ? earNow - 1 : earNow;
            if (asked < 0 || asked > MOST_ASKED) {
                return 0;
            }
            return close[(measure * (MOST_ASKED + 1) + asked) * WORDS + w];
        }

        boolean isFullRhyme(int kind, int words, int another, int anothers, int earNow) {
            for (int w = 0; w < wordCount; w++) {
                if (holds(words, w) && (rhymingWords(w, kind, another, earNow) & anothers) != 0) {
                    return true;
                }
            }
            return false;
        }

        /** How two of these kinds rhyme by these words. */
        int degree(int kind, int words, int another, int anothers, int earNow) {
            if (isFullRhyme(kind, words, another, anothers, earNow)) {
                return FULLY;
            }
            // A poet's half was counted as full above: one letter fewer is nothing to him.
            if (kind == POET || another == POET) {
                return NOT_AT_ALL;
            }
            return isFullRhyme(kind, words, another, anothers, earNow - 1) ? BY_HALF : NOT_AT_ALL;
        }
    }

    /** Reads a text into a tale, token by token, till the first fault from the left. */
    private static final class Reader {
        private static final int FORM = 1;
        private static final int STRANGE = 2;
        private static final int AGAIN = 3;
        private static final int BOUNDS = 4;
        private static final int MANY = 5;
        private static final int LACKS = 6;
        private static final int SOUNDS = 7;

        private static final int END = 0;
        private static final int LETTERS = 1;
        private static final int WHOLE = 2;
        private static final int STOP = 3;
        private static final int ODD = 4;

        private static final int NO_LINE = 0;
        private static final int FERRY = 1;
        private static final int WORD = 2;
        private static final int PERSON = 3;
        private static final int KNOWS = 4;
        private static final int ALIKE = 5;
        private static final int HOUR = 6;
        private static final int ERRAND = 7;
        private static final int GOT = 8;

        private final byte[] bytes;
        private Tale tale;
        private int end = 0;
        private int next = 0;
        private boolean begun = false;
        private int knowings = 0;

        // The token that is looked at: its sort, its place, how long it is and what it says.
        private int sort = END;
        private int place = 0;
        private int length = 0;
        private long letters = 0;
        private int whole = 0;

        // What the latest tokens taken have said.
        private long name = 0;
        private long sounds = 0;
        private int number = 0;
        private int found = NONE;

        int fault = 0;
        int faultPlace = 0;

        Reader(byte[] tape, Tale into) {
            bytes = tape;
            tale = into;
        }

        void read(Tale into, int n) {
            tale = into;
            tale.forget();
            end = Math.min(n, bytes.length);
            next = 0;
            begun = false;
            knowings = 0;
            fault = 0;
            faultPlace = 0;
            look();
            boolean sound = readLine();
            // No text has more lines than bytes.
            for (int lines = 0; lines < TAPE_BYTES && sound && sort == STOP; lines++) {
                look();
                sound = readLine();
            }
            if (sound && sort != END) {
                fail(FORM);
            } else if (sound && tale.personCount == 0) {
                // Nobody is told without a word of his: no word, no person.
                fail(LACKS);
            }
        }

        private boolean fail(int faultNumber) {
            fault = faultNumber;
            faultPlace = place;
            return false;
        }

        /** Goes on to the next token. */
        private void look() {
            while (next < end && bytes[next] == ' ') {
                next++;
            }
            place = next;
            if (next >= end) {
                sort = END;
                return;
            }
            int sign = bytes[next];
            if (sign >= 'a' && sign <= 'z') {
                lookAtLetters();
            } else if (sign >= '0' && sign <= '9') {
                lookAtDigits();
            } else {
                sort = sign == ';' ? STOP : ODD;
                next++;
            }
        }

        private void lookAtLetters() {
            letters = 0;
            while (next < end && bytes[next] >= 'a' && bytes[next] <= 'z') {
                letters = (letters << LETTER_BITS) + (bytes[next] - 'a' + 1);
                next++;
            }
            length = next - place;
            sort = length <= NAME_LETTERS ? LETTERS : ODD;
        }

        private void lookAtDigits() {
            whole = 0;
            while (next < end && bytes[next] >= '0' && bytes[next] <= '9') {
                whole = whole * 10 + (bytes[next] - '0');
                next++;
            }
            length = next - place;
            sort = length <= WHOLE_DIGITS ? WHOLE : ODD;
        }

        private boolean is(String text) {
            if (sort != LETTERS || length != text.length()) {
                return false;
            }
            long same = 0;
            for (int i = 0; i < length; i++) {
                same = (same << LETTER_BITS) + (text.charAt(i) - 'a' + 1);
            }
            return same == letters;
        }

        private int lineBegun() {
            if (is("ferry")) {
                return FERRY;
            } else if (is("word")) {
                return WORD;
            } else if (is("person")) {
                return PERSON;
            } else if (is("knows")) {
                return KNOWS;
            } else if (is("alike")) {
                return ALIKE;
            } else if (is("hour")) {
                return HOUR;
            } else if (is("errand")) {
                return ERRAND;
            }
            return is("got") ? GOT : NO_LINE;
        }

        private boolean isRoomFor(int line) {
            switch (line) {
                case WORD:
                    return tale.wordCount < WORDS;
                case PERSON:
                    return tale.personCount < PEOPLE;
                case KNOWS:
                    return knowings < KNOWINGS;
                case ALIKE:
                    return tale.alikeCount < ALIKES;
                case HOUR:
                    return tale.hoursTold() < HOURS_TOLD;
                case GOT:
                    return tale.gotCount < GOTS;
                default:
                    return true;
            }
        }

        private boolean readLine() {
            int line = lineBegun();
            if (line == NO_LINE) {
                return fail(FORM);
            }
            if (line == FERRY && begun) {
                return fail(AGAIN);
            }
            if (line != FERRY && !begun) {
                return fail(LACKS);
            }
            if (!isRoomFor(line)) {
                return fail(MANY);
            }
            look();
            switch (line) {
                case FERRY:
                    return readFerry();
                case WORD:
                    return readWord();
                case PERSON:
                    return readPerson();
                case KNOWS:
                    return readKnows();
                case ALIKE:
                    return readAlike();
                case HOUR:
                    return readHour();
                case ERRAND:
                    return readErrand();
                default:
                    return readGot();
            }
        }

        private boolean readFerry() {
            begun = true;
            if (!takes("ear") || !takesWhole(2, 5)) {
                return false;
            }
            tale.ear = number;
            if (!takes("pairs") || !takesWhole(1, 3)) {
                return false;
            }
            tale.pairs = number;
            return true;
        }

        private boolean readWord() {
            if (!takesNewName() || !takes("sounds") || !takesSounds()) {
                return false;
            }
            if (!takes("price") || !takesWhole(0, 99)) {
                return false;
            }
            tale.addWord(name, sounds, number);
            return true;
        }

        private boolean readPerson() {
            if (!takesNewName()) {
                return false;
            }
            int kind = is("plain") ? PLAIN : is("deaf") ? DEAF
                : is("child") ? CHILD : is("poet") ? POET : NONE;
            if (kind == NONE) {
                return fail(FORM);
            }
            look();
            if (!takes("on")) {
                return false;
            }
            boolean far = is("far");
            if (!far && !is("near")) {
                return fail(FORM);
            }
            look();
            if (!takes("has") || !seesToldWord()) {
                return false;
            }
            look();
            tale.addPerson(name, kind, far, found);
            return true;
        }

        private boolean readKnows() {
            if (!seesToldPerson()) {
                return false;
            }
            int p = found;
            look();
            if (!seesToldWord()) {
                return false;
            }
            if (holds(tale.firstWords[p], found)) {
                return fail(AGAIN);
            }
            look();
            tale.firstWords[p] |= 1 << found;
            knowings++;
            return true;
        }

        private boolean readAlike() {
            if (!seesLetter()) {
                return false;
            }
            int letter = found;
            look();
            if (!seesLetter()) {
                return false;
            }
            if (tale.isAlike(letter, found)) {
                return fail(AGAIN);
            }
            look();
            tale.addAlike(letter, found);
            return true;
        }

        private boolean readHour() {
            if (!seesWhole(0, HOURS - 1)) {
                return false;
            }
            int hour = whole;
            if (tale.hourEars[hour] > 0) {
                return fail(AGAIN);
            }
            look();
            if (!takes("ear") || !takesWhole(1, EARS)) {
                return false;
            }
            tale.hourEars[hour] = number;
            return true;
        }

        private boolean readErrand() {
            if (!seesToldPerson()) {
                return false;
            }
            int p = found;
            if (tale.errands[p] > 0) {
                return fail(AGAIN);
            }
            look();
            if (!takes("by") || !takesWhole(1, 4)) {
                return false;
            }
            tale.errands[p] = number;
            return true;
        }

        private boolean readGot() {
            if (!seesToldPerson()) {
                return false;
            }
            int p = found;
            look();
            if (!seesToldPerson()) {
                return false;
            }
            if (found == p) {
                return fail(AGAIN);
            }
            look();
            int degree = is("over") ? FULLY : is("wet") ? BY_HALF : is("back") ? NOT_AT_ALL : NONE;
            if (degree == NONE) {
                return fail(FORM);
            }
            look();
            tale.addGot(p, found, degree);
            return true;
        }

        private boolean takes(String text) {
            if (!is(text)) {
                return fail(FORM);
            }
            look();
            return true;
        }

        private boolean seesWhole(int least, int most) {
            if (sort != WHOLE) {
                return fail(FORM);
            }
            return whole >= least && whole <= most || fail(BOUNDS);
        }

        private boolean takesWhole(int least, int most) {
            if (!seesWhole(least, most)) {
                return false;
            }
            number = whole;
            look();
            return true;
        }

        private boolean takesNewName() {
            if (sort != LETTERS || lineBegun() != NO_LINE) {
                return fail(FORM);
            }
            if (tale.wordNamed(letters) != NONE || tale.personNamed(letters) != NONE) {
                return fail(AGAIN);
            }
            name = letters;
            look();
            return true;
        }

        private boolean takesSounds() {
            if (sort != LETTERS) {
                return fail(FORM);
            }
            boolean fits = length >= 2 && length <= 6;
            for (int i = 0; i < NAME_LETTERS; i++) {
                fits = fits && (letters >>> LETTER_BITS * i & LETTER_MASK) <= SOUND_LETTERS;
            }
            if (!fits) {
                return fail(SOUNDS);
            }
            sounds = letters;
            look();
            return true;
        }

        private boolean seesLetter() {
            if (sort != LETTERS) {
                return fail(FORM);
            }
            if (length != 1 || letters > SOUND_LETTERS) {
                return fail(SOUNDS);
            }
            found = (int) letters;
            return true;
        }

        private boolean seesToldWord() {
            if (sort != LETTERS || lineBegun() != NO_LINE) {
                return fail(FORM);
            }
            found = tale.wordNamed(letters);
            return found != NONE || fail(STRANGE);
        }

        private boolean seesToldPerson() {
            if (sort != LETTERS || lineBegun() != NO_LINE) {
                return fail(FORM);
            }
            found = tale.personNamed(letters);
            return found != NONE || fail(STRANGE);
        }
    }

    /** What acts change: the hour, the coins paid, where people are, their words, who is wet. */
    private static final class Now {
        int hour = 0;
        int paid = 0;
        int everybody = 0;
        int far = 0;
        final int[] words = new int[PEOPLE];
        final int[] wet = new int[PEOPLE];

        void begin(Tale tale) {
            hour = 0;
            paid = 0;
            everybody = (1 << tale.personCount) - 1;
            far = tale.firstFar;
            System.arraycopy(tale.firstWords, 0, words, 0, PEOPLE);
            Arrays.fill(wet, 0);
        }

        int onBank(int bank) {
            return bank == FAR ? far : everybody & ~far;
        }

        int bankOf(int p) {
            return holds(far, p) ? FAR : NEAR;
        }

        void carryOver(int p) {
            far ^= 1 << p;
        }

        boolean has(int p, int w) {
            return holds(words[p], w);
        }

        int whoHas(int w) {
            int people = 0;
            for (int p = 0; p < PEOPLE; p++) {
                if (holds(everybody, p) && has(p, w)) {
                    people |= 1 << p;
                }
            }
            return people;
        }
    }

    /** Copies of what was, in a row that is used again; when it is full the oldest one goes. */
    private static final class Shelf {
        private static final int CELLS = 3 + 2 * PEOPLE;

        private final int room;
        private final int[] cells;
        private int first = 0;
        int count = 0;

        Shelf(int copies) {
            room = Math.max(1, copies);
            cells = new int[room * CELLS];
        }

        void clear() {
            first = 0;
            count = 0;
        }

        void push(Now now) {
            if (count == room) {
                first = (first + 1) % room;
                count--;
            }
            int at = placeOf(count);
            cells[at] = now.hour;
            cells[at + 1] = now.paid;
            cells[at + 2] = now.far;
            System.arraycopy(now.words, 0, cells, at + 3, PEOPLE);
            System.arraycopy(now.wet, 0, cells, at + 3 + PEOPLE, PEOPLE);
            count++;
        }

        void copyTo(int i, Now now) {
            int at = placeOf(i);
            now.hour = cells[at];
            now.paid = cells[at + 1];
            now.far = cells[at + 2];
            System.arraycopy(cells, at + 3, now.words, 0, PEOPLE);
            System.arraycopy(cells, at + 3 + PEOPLE, now.wet, 0, PEOPLE);
        }

        void pop(Now now) {
            if (count > 0) {
                count--;
                copyTo(count, now);
            }
        }

        private int placeOf(int i) {
            return (first + i) % room * CELLS;
        }
    }

    /** Who rhymes with whom by the words that people have now. */
    private static final class Rhymes {
        final Now now;
        final int[] links = new int[PEOPLE];
        Tale tale = new Tale();

        Rhymes(Now state) {
            now = state;
        }

        int degree(int p, int q, int ear) {
            return tale.degree(tale.kinds[p], now.words[p], tale.kinds[q], now.words[q], ear);
        }

        /** With whom p, having these words, rhymes fully if all others have some more. */
        int metBy(int p, int words, int more, int ear) {
            int met = 0;
            for (int q = 0; q < tale.personCount; q++) {
                int others = now.words[q] | more;
                if (q != p && tale.isFullRhyme(tale.kinds[p], words, tale.kinds[q], others, ear)) {
                    met |= 1 << q;
                }
            }
            return met;
        }

        int metNow(int p, int ear) {
            return metBy(p, now.words[p], 0, ear);
        }

        int metHaving(int p, int w, int ear) {
            return metBy(p, now.words[p] | 1 << w, 0, ear);
        }

        void link(int ear) {
            for (int p = 0; p < tale.personCount; p++) {
                links[p] = metNow(p, ear);
            }
        }

        /** All to whom p hangs together by the links that are laid. */
        int groupOf(int p) {
            int group = 1 << p;
            for (int round = 0; round < tale.personCount; round++) {
                for (int q = 0; q < tale.personCount; q++) {
                    group |= holds(group, q) ? links[q] : 0;
                }
            }
            return group;
        }

        int groupCount() {
            int count = 0;
            int counted = 0;
            for (int p = 0; p < tale.personCount; p++) {
                if (!holds(counted, p)) {
                    counted |= groupOf(p);
                    count++;
                }
            }
            return count;
        }

        int hourOfMost(int p) {
            int best = 0;
            int most = -1;
            for (int hour = 0; hour < HOURS; hour++) {
                int met = Integer.bitCount(metNow(p, tale.earAt(hour)));
                if (met > most) {
                    most = met;
                    best = hour;
                }
            }
            return best;
        }

        int wordOfMost(int p, int ear) {
            int best = 0;
            int most = -1;
            for (int w = 0; w < tale.wordCount; w++) {
                int met = Integer.bitCount(metBy(p, 1 << w, 0, ear));
                if (met > most) {
                    most = met;
                    best = w;
                }
            }
            return best;
        }

        int firstHour(int p, int q) {
            for (int hour = 0; hour < HOURS; hour++) {
                if (degree(p, q, tale.earAt(hour)) == FULLY) {
                    return hour;
                }
            }
            return NOTHING;
        }

        int hourCount(int p, int q) {
            int count = 0;
            for (int hour = 0; hour < HOURS; hour++) {
                count += degree(p, q, tale.earAt(hour)) == FULLY ? 1 : 0;
            }
            return count;
        }

        int cheapestGain(int p, int ear) {
            int strangers = now.onBank(now.bankOf(p)) & ~metNow(p, ear);
            int best = NOTHING;
            for (int w = 0; w < tale.wordCount; w++) {
                boolean cheaper = best == NOTHING || tale.prices[w] < tale.prices[best];
                if (cheaper && !now.has(p, w) && (metHaving(p, w, ear) & strangers) != 0) {
                    best = w;
                }
            }
            return best;
        }

        int lonely(int people, int ear) {
            int alone = 0;
            for (int p = 0; p < tale.personCount; p++) {
                if (holds(people, p) && (metNow(p, ear) & people) == 0) {
                    alone |= 1 << p;
                }
            }
            return alone;
        }
    }

    /** Pairs among some people, by what is best in each part of them. */
    private static final class Pairing {
        private static final int PARTS = 1 << PEOPLE;
        private static final int TOO_DEAR = 1000000;

        final int[] partners = new int[PEOPLE];
        private final int[] best = new int[PARTS];

        private static int leastOf(int people) {
            for (int p = 0; p < PEOPLE; p++) {
                if (holds(people, p)) {
                    return p;
                }
            }
            return NONE;
        }

        /** The most pairs of linked people; best tells it for each part of them too. */
        int most(int[] links, int people) {
            for (int part = 0; part <= people && part < PARTS; part++) {
                if ((part & ~people) == 0) {
                    best[part] = mostIn(links, part);
                }
            }
            return best[people & PARTS - 1];
        }

        private int mostIn(int[] links, int part) {
            int p = leastOf(part);
            if (p == NONE) {
                return 0;
            }
            int rest = part & ~(1 << p);
            int most = best[rest];
            for (int q = p + 1; q < PEOPLE; q++) {
                if (holds(rest & links[p], q)) {
                    most = Math.max(most, 1 + best[rest & ~(1 << q)]);
                }
            }
            return most;
        }

        /** Pairs people as the first of the ways that have most pairs does. */
        void pairFirst(int[] links, int people) {
            most(links, people);
            Arrays.fill(partners, NOTHING);
            int left = people & PARTS - 1;
            for (int p = 0; p < PEOPLE; p++) {
                if (holds(left, p)) {
                    int q = firstPartner(links, p, left);
                    left &= ~(1 << p);
                    if (q != NOTHING) {
                        left &= ~(1 << q);
                        partners[p] = q;
                        partners[q] = p;
                    }
                }
            }
        }

        private int firstPartner(int[] links, int p, int left) {
            int rest = left & ~(1 << p);
            for (int q = p + 1; q < PEOPLE; q++) {
                if (holds(rest & links[p], q) && 1 + best[rest & ~(1 << q)] == best[left]) {
                    return q;
                }
            }
            return NOTHING;
        }

        /** The most errands that linked people keep when they cross by pairs, in the best order. */
        int mostKept(int[] links, int people, Tale tale) {
            int all = Integer.bitCount(people);
            for (int part = 0; part <= people && part < PARTS; part++) {
                int gone = all - Integer.bitCount(part);
                if ((part & ~people) == 0 && gone % 2 == 0) {
                    // To leave a place empty is never better: who is gone tells which is next.
                    int crossing = gone / 2 / Math.max(1, tale.pairs) + 1;
                    best[part] = mostKeptIn(links, part, tale, crossing);
                }
            }
            return best[people & PARTS - 1];
        }

        private int mostKeptIn(int[] links, int part, Tale tale, int crossing) {
            int most = 0;
            for (int p = 0; p < PEOPLE; p++) {
                for (int q = p + 1; q < PEOPLE; q++) {
                    if (holds(part, p) && holds(part & links[p], q)) {
                        int both = (crossing <= tale.errands[p] ? 1 : 0)
                            + (crossing <= tale.errands[q] ? 1 : 0);
                        most = Math.max(most, both + best[part & ~(1 << p) & ~(1 << q)]);
                    }
                }
            }
            return most;
        }

        /** The least coins for all in pairs, by what each pair costs; less than 0: never. */
        int leastCoins(int[] coins, int people) {
            best[0] = 0;
            for (int part = 1; part <= people && part < PARTS; part++) {
                if ((part & ~people) == 0) {
                    best[part] = leastCoinsIn(coins, part);
                }
            }
            int least = best[people & PARTS - 1];
            return least < TOO_DEAR ? least : NOTHING;
        }

        private int leastCoinsIn(int[] coins, int part) {
            int p = leastOf(part);
            int least = TOO_DEAR;
            for (int q = p + 1; p != NONE && q < PEOPLE; q++) {
                int pair = coins[p * PEOPLE + q];
                if (holds(part, q) && pair >= 0) {
                    least = Math.min(least, pair + best[part & ~(1 << p) & ~(1 << q)]);
                }
            }
            return least;
        }

        /** Whether linked people can all be in pairs; two go a level, so there are four at most. */
        private static boolean canAll(int[] links, int people) {
            int p = leastOf(people);
            if (p == NONE) {
                return true;
            }
            int rest = people & ~(1 << p);
            for (int q = p + 1; q < PEOPLE; q++) {
                if (holds(rest & links[p], q) && canAll(links, rest & ~(1 << q))) {
                    return true;
                }
            }
            return false;
        }
    }

    /** Words that are bought so that all are in pairs, and words that all rhyme with. */
    private static final class Purse {
        private final Rhymes rhymes;
        private final Pairing pairing;
        private final int[] coins = new int[PEOPLE * PEOPLE];
        private final int[] links = new int[PEOPLE];
        /** For a word and a person: the people he rhymes with if that word is bought for both. */
        private final int[] linksBy = new int[WORDS * PEOPLE];
        private final int[] singers = new int[WORDS];
        private int people = 0;

        Purse(Rhymes byWords, Pairing byLinks) {
            rhymes = byWords;
            pairing = byLinks;
        }

        int leastCoins(int who, int ear) {
            int count = rhymes.tale.personCount;
            for (int p = 0; p < count; p++) {
                for (int q = p + 1; q < count; q++) {
                    boolean both = holds(who, p) && holds(who, q);
                    coins[p * PEOPLE + q] = both ? coinsFor(p, q, ear) : NONE;
                }
            }
            return pairing.leastCoins(coins, who);
        }

        /** What it costs that two rhyme fully, by a word each; less than 0 if they never do. */
        private int coinsFor(int p, int q, int ear) {
            Tale tale = rhymes.tale;
            int least = NONE;
            for (int w = 0; w < tale.wordCount; w++) {
                int fits = tale.rhymingWords(w, tale.kinds[p], tale.kinds[q], ear);
                int forP = rhymes.now.has(p, w) ? 0 : tale.prices[w];
                for (int u = 0; u < tale.wordCount; u++) {
                    int both = forP + (rhymes.now.has(q, u) ? 0 : tale.prices[u]);
                    if (holds(fits, u) && (least == NONE || both < least)) {
                        least = both;
                    }
                }
            }
            return least;
        }

        void planPairs(int who, int ear) {
            people = who;
            rhymes.link(ear);
            for (int w = 0; w < rhymes.tale.wordCount; w++) {
                for (int p = 0; p < rhymes.tale.personCount; p++) {
                    int words = rhymes.now.words[p] | 1 << w;
                    linksBy[w * PEOPLE + p] = rhymes.metBy(p, words, 1 << w, ear);
                }
            }
        }

        void planSinging(int who, int ear) {
            people = who;
            Tale tale = rhymes.tale;
            for (int w = 0; w < tale.wordCount; w++) {
                singers[w] = 0;
                for (int p = 0; p < tale.personCount; p++) {
                    int words = rhymes.now.words[p];
                    if (tale.isFullRhyme(tale.kinds[p], words, PLAIN, 1 << w, ear)) {
                        singers[w] |= 1 << p;
                    }
                }
            }
        }

        /** The fewest words that are enough for what is planned, the least bits first. */
        int fewest(boolean sung) {
            int count = rhymes.tale.wordCount;
            int all = (1 << count) - 1;
            if (!isEnough(all, sung)) {
                return NOTHING;
            }
            for (int size = 0; size < count; size++) {
                for (int words = 0; words < all; words++) {
                    if (Integer.bitCount(words) == size && isEnough(words, sung)) {
                        return words;
                    }
                }
            }
            return all;
        }

        private boolean isEnough(int words, boolean sung) {
            return sung ? allSing(words) : allPair(words);
        }

        private boolean allSing(int words) {
            int singing = 0;
            for (int w = 0; w < rhymes.tale.wordCount; w++) {
                singing |= holds(words, w) ? singers[w] : 0;
            }
            return (people & ~singing) == 0;
        }

        private boolean allPair(int words) {
            // Two who rhyme by two words bought rhyme by either one alone, if both have it: no
            // word is more like another than like itself. So words need not be tried together.
            for (int p = 0; p < rhymes.tale.personCount; p++) {
                links[p] = rhymes.links[p];
                for (int w = 0; w < rhymes.tale.wordCount; w++) {
                    links[p] |= holds(words, w) ? linksBy[w * PEOPLE + p] : 0;
                }
            }
            return Pairing.canAll(links, people);
        }
    }

    /** What ear the ferryman has, by who got over with whom. */
    private static final class Hearing {
        private final Rhymes rhymes;
        private final int[] left = new int[FULLY + 1];
        int question = NOTHING;
        int leaves = NOTHING;

        Hearing(Rhymes byWords) {
            rhymes = byWords;
        }

        /** The first that got that isn't so by an ear. */
        int firstUntrue(int ear) {
            Tale tale = rhymes.tale;
            for (int i = 0; i < tale.gotCount; i++) {
                if (rhymes.degree(tale.gotFirst[i], tale.gotSecond[i], ear) != tale.gotDegree[i]) {
                    return i;
                }
            }
            return NOTHING;
        }

        /** The ears by which all that got is so, as bits. */
        int ears() {
            int ears = 0;
            for (int ear = 1; ear <= EARS; ear++) {
                ears |= firstUntrue(ear) == NOTHING ? 1 << ear : 0;
            }
            return ears;
        }

        int endOf(int ears, boolean greatest) {
            int end = NOTHING;
            for (int ear = 1; ear <= EARS; ear++) {
                if (holds(ears, ear) && (greatest || end == NOTHING)) {
                    end = ear;
                }
            }
            return end;
        }

        /** Finds the first two by whom at most fewest of some ears are left. */
        void seekQuestion(int ears) {
            question = NOTHING;
            leaves = NOTHING;
            int count = ears == 0 ? 0 : rhymes.tale.personCount;
            for (int p = 0; p < count; p++) {
                for (int q = p + 1; q < count; q++) {
                    int most = mostLeft(p, q, ears);
                    if (leaves == NOTHING || most < leaves) {
                        leaves = most;
                        question = 10 * p + q;
                    }
                }
            }
        }

        private int mostLeft(int p, int q, int ears) {
            Arrays.fill(left, 0);
            for (int ear = 1; ear <= EARS; ear++) {
                if (holds(ears, ear)) {
                    left[rhymes.degree(p, q, ear)]++;
                }
            }
            return Math.max(left[NOT_AT_ALL], Math.max(left[BY_HALF], left[FULLY]));
        }
    }

    /** Two sellers of a word each, to those on the near bank who rhyme with nobody there. */
    private static final class Sellers {
        private final Rhymes rhymes;
        private int firstsOwn = 0;
        private int secondsOwn = 0;
        private int shared = 0;

        Sellers(Rhymes byWords) {
            rhymes = byWords;
        }

        void countBuyers(int w, int u, int ear) {
            firstsOwn = 0;
            secondsOwn = 0;
            shared = 0;
            int near = rhymes.now.onBank(NEAR);
            int lonely = rhymes.lonely(near, ear);
            for (int p = 0; p < rhymes.tale.personCount; p++) {
                if (holds(lonely, p)) {
                    boolean byFirst = (rhymes.metHaving(p, w, ear) & near) != 0;
                    boolean bySecond = (rhymes.metHaving(p, u, ear) & near) != 0;
                    firstsOwn += byFirst && !bySecond ? 1 : 0;
                    secondsOwn += bySecond && !byFirst ? 1 : 0;
                    shared += byFirst && bySecond ? 1 : 0;
                }
            }
        }

        int firstHas(int price, int others) {
            return price * (firstsOwn + (price <= others ? shared : 0));
        }

        int secondHas(int price, int others) {
            return others * (secondsOwn + (others < price ? shared : 0));
        }

        private boolean isRest(int price, int others) {
            for (int instead = 0; instead < PRICES; instead++) {
                if (firstHas(instead, others) > firstHas(price, others)
                    || secondHas(price, instead) > secondHas(price, others)) {
                    return false;
                }
            }
            return true;
        }

        int restCount() {
            int count = 0;
            for (int both = 0; both < PRICES * PRICES; both++) {
                count += isRest(both / PRICES, both % PRICES) ? 1 : 0;
            }
            return count;
        }

        int firstRest() {
            for (int both = 0; both < PRICES * PRICES; both++) {
                if (isRest(both / PRICES, both % PRICES)) {
                    return both;
                }
            }
            return NOTHING;
        }
    }

    /** Days by draws: they are only told, nobody moves by them. */
    private static final class Days {
        private final Rhymes rhymes;
        private final Pairing pairing;
        /** In which hour of the day, from 1 on, each crossed. */
        final int[] crossings = new int[PEOPLE];

        Days(Rhymes byWords, Pairing byLinks) {
            rhymes = byWords;
            pairing = byLinks;
        }

        /** How many people cross in so many hours from now. */
        int pass(int seed, int n) {
            Arrays.fill(crossings, NOTHING);
            int near = rhymes.now.onBank(NEAR);
            int left = near;
            int drawn = seed;
            // One alone has nobody to cross with, whatever is drawn.
            for (int i = 0; i < n && Integer.bitCount(left) > 1; i++) {
                drawn = (75 * drawn + 74) % SEEDS;
                int usual = rhymes.tale.earAt((rhymes.now.hour + i) % HOURS);
                rhymes.link(Math.max(1, usual + drawn % 3 - 1));
                pairing.pairFirst(rhymes.links, left);
                left &= ~crossersAt(i + 1);
            }
            return Integer.bitCount(near & ~left);
        }

        /** Sends over as many of the pairs that are made as the ferry has. */
        private int crossersAt(int hour) {
            int crossers = 0;
            int pairs = 0;
            for (int p = 0; p < PEOPLE && pairs < rhymes.tale.pairs; p++) {
                int q = pairing.partners[p];
                if (q > p) {
                    crossers |= 1 << p | 1 << q;
                    crossings[p] = hour;
                    crossings[q] = hour;
                    pairs++;
                }
            }
            return crossers;
        }
    }
}
