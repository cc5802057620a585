import java.util.ArrayList;
import java.util.Arrays;
import java.util.List;
import java.util.Set;
import java.util.TreeSet;
import java.util.regex.Matcher;
import java.util.regex.Pattern;

/**
 * The document once more, as plainly as can be and by trying everything: what RhymeFerry is compared
 * with. Answers are Integer; a call that is refused answers NONE and sets trouble.
 */
final class Model {
    static final List<String> LINES = List.of("ferry", "word", "person", "knows", "alike", "hour", "errand", "got");
    private static final List<String> KINDS = List.of("plain", "deaf", "child", "poet");
    private static final List<String> ANSWERS = List.of("back", "wet", "over");

    private record Token(String text, int place) { }

    record Word(String name, String sounds, int price) { }

    record Got(int p, int q, int degree) { }

    static final class Person {
        String name;
        int kind;
        int bank;
        int wet;
        int errand;
        Set<Integer> words = new TreeSet<>();

        Person copy() {
            Person copy = new Person();
            copy.name = name;
            copy.kind = kind;
            copy.bank = bank;
            copy.wet = wet;
            copy.errand = errand;
            copy.words = new TreeSet<>(words);
            return copy;
        }
    }

    /** All that acts change. */
    private record State(int hour, int paid, List<Person> people) { }

    private static final class Told {
        int ear;
        int pairs;
        final List<Word> words = new ArrayList<>();
        final List<Person> people = new ArrayList<>();
        final List<String> alikes = new ArrayList<>();
        final Integer[] ears = new Integer[24];
        final List<Got> gots = new ArrayList<>();
        final int[] lines = new int[8];
    }

    private Told told = new Told();
    List<Person> people = new ArrayList<>();
    int hour;
    int paid;
    List<State> past = new ArrayList<>();
    List<State> images = new ArrayList<>();
    int trouble;
    int fault;
    int where = -1;

    // ---- the text

    int ferry(String text) {
        Told draft = new Told();
        fault = 0;
        where = -1;
        read(text, draft);
        if (fault != 0) {
            trouble = 4;
            return -1;
        }
        trouble = 0;
        told = draft;
        people = draft.people;
        hour = 0;
        paid = 0;
        past.clear();
        images.clear();
        return people.size();
    }

    private void read(String text, Told draft) {
        List<Token> tokens = new ArrayList<>();
        Matcher matcher = Pattern.compile("[a-z]+|[0-9]+|(?s:[^ ])").matcher(text);
        while (matcher.find()) {
            tokens.add(new Token(matcher.group(), matcher.start()));
        }
        tokens.add(new Token("", text.length()));
        int at = 0;
        do {
            String first = tokens.get(at).text;
            int line = LINES.indexOf(first);
            if (line < 0) {
                mark(1, tokens.get(at));
            } else if (line == 0 && draft.lines[0] > 0) {
                mark(3, tokens.get(at));
            } else if (line > 0 && draft.lines[0] == 0) {
                mark(6, tokens.get(at));
            } else if (draft.lines[line] == new int[] {1, 10, 8, 8, 4, 8, 99, 6}[line]) {
                mark(5, tokens.get(at));
            }
            if (fault != 0) {
                return;
            }
            draft.lines[line]++;
            String[] form = new String[] {"ear 2-5 pairs 1-3", "NEW sounds SOUNDS price 0-99",
                "NEW KIND on BANK has WORD", "PERSON WORD", "LETTER LETTER", "0-23 ear 1-6", "PERSON by 1-4",
                "PERSON PERSON ANSWER"}[line].split(" ");
            List<String> said = new ArrayList<>();
            for (String due : form) {
                at++;
                int number = faultOf(due, tokens.get(at).text, line, said, draft);
                if (number != 0) {
                    mark(number, tokens.get(at));
                    return;
                }
                said.add(tokens.get(at).text);
            }
            take(line, said, draft);
            at++;
        } while (tokens.get(at).text.equals(";") && at++ >= 0);
        if (!tokens.get(at).text.isEmpty()) {
            mark(1, tokens.get(at));
        } else if (draft.words.isEmpty() || draft.people.isEmpty()) {
            mark(6, tokens.get(at));
        }
    }

    private void mark(int number, Token token) {
        fault = number;
        where = token.place;
    }

    private int faultOf(String due, String text, int line, List<String> said, Told draft) {
        boolean letters = text.matches("[a-z]{1,8}");
        if (due.matches("[0-9].*")) {
            if (!text.matches("[0-9]{1,3}")) {
                return 1;
            }
            int whole = Integer.parseInt(text);
            if (line == 5 && said.isEmpty() && whole < 24 && draft.ears[whole] != null) {
                return 3;
            }
            String[] bounds = due.split("-");
            return whole < Integer.parseInt(bounds[0]) || whole > Integer.parseInt(bounds[1]) ? 4 : 0;
        }
        boolean name = letters && !LINES.contains(text);
        int w = wordNamed(text, draft);
        int p = personNamed(text, draft);
        switch (due) {
            case "NEW":
                return !name ? 1 : w >= 0 || p >= 0 ? 3 : 0;
            case "WORD":
                if (name && w >= 0 && line == 3 && draft.people.get(personNamed(said.get(0), draft)).words.contains(w)) {
                    return 3;
                }
                return !name ? 1 : w < 0 ? 2 : 0;
            case "PERSON":
                if (!name || p < 0) {
                    return !name ? 1 : 2;
                }
                return line == 6 && draft.people.get(p).errand > 0 || said.contains(text) ? 3 : 0;
            case "SOUNDS":
                return !letters ? 1 : text.matches("[a-h]{2,6}") ? 0 : 7;
            case "LETTER":
                if (!letters || !text.matches("[a-h]")) {
                    return letters ? 7 : 1;
                }
                return !said.isEmpty() && (said.get(0).equals(text) || draft.alikes.contains(said.get(0) + text)) ? 3 : 0;
            case "KIND":
                return KINDS.contains(text) ? 0 : 1;
            case "BANK":
                return text.equals("near") || text.equals("far") ? 0 : 1;
            case "ANSWER":
                return ANSWERS.contains(text) ? 0 : 1;
            default:
                return text.equals(due) ? 0 : 1;
        }
    }

    private static int wordNamed(String name, Told draft) {
        for (int w = 0; w < draft.words.size(); w++) {
            if (draft.words.get(w).name.equals(name)) {
                return w;
            }
        }
        return -1;
    }

    private static int personNamed(String name, Told draft) {
        for (int p = 0; p < draft.people.size(); p++) {
            if (draft.people.get(p).name.equals(name)) {
                return p;
            }
        }
        return -1;
    }

    private static void take(int line, List<String> said, Told draft) {
        switch (line) {
            case 0:
                draft.ear = Integer.parseInt(said.get(1));
                draft.pairs = Integer.parseInt(said.get(3));
                break;
            case 1:
                draft.words.add(new Word(said.get(0), said.get(2), Integer.parseInt(said.get(4))));
                break;
            case 2:
                Person person = new Person();
                person.name = said.get(0);
                person.kind = KINDS.indexOf(said.get(1));
                person.bank = said.get(3).equals("far") ? 1 : 0;
                person.words.add(wordNamed(said.get(5), draft));
                draft.people.add(person);
                break;
            case 3:
                draft.people.get(personNamed(said.get(0), draft)).words.add(wordNamed(said.get(1), draft));
                break;
            case 4:
                draft.alikes.add(said.get(0) + said.get(1));
                draft.alikes.add(said.get(1) + said.get(0));
                break;
            case 5:
                draft.ears[Integer.parseInt(said.get(0))] = Integer.parseInt(said.get(2));
                break;
            case 6:
                draft.people.get(personNamed(said.get(0), draft)).errand = Integer.parseInt(said.get(2));
                break;
            default:
                draft.gots.add(new Got(personNamed(said.get(0), draft), personNamed(said.get(1), draft),
                    ANSWERS.indexOf(said.get(2))));
        }
    }

    // ---- refusals

    private boolean refused(boolean known, boolean number) {
        trouble = !known ? 1 : !number ? 2 : 0;
        return trouble != 0;
    }

    private boolean isWord(int w) {
        return w >= 0 && w < told.words.size();
    }

    private boolean isPerson(int p) {
        return p >= 0 && p < people.size();
    }

    private boolean two(int p, int q) {
        return isPerson(p) && isPerson(q) && p != q;
    }

    private boolean any() {
        return !people.isEmpty();
    }

    private static boolean isHour(int h) {
        return h >= 0 && h <= 23;
    }

    // ---- rhymes

    private int like(Word w, Word u) {
        int count = 0;
        String a = w.sounds;
        String b = u.sounds;
        while (count < a.length() && count < b.length()) {
            char x = a.charAt(a.length() - 1 - count);
            char y = b.charAt(b.length() - 1 - count);
            if (x != y && !told.alikes.contains("" + x + y)) {
                break;
            }
            count++;
        }
        return count;
    }

    private static int eye(Word w, Word u) {
        int count = 0;
        for (int n = 1; n <= w.name.length() && n <= u.name.length(); n++) {
            if (w.name.substring(w.name.length() - n).equals(u.name.substring(u.name.length() - n))) {
                count = n;
            }
        }
        return count;
    }

    private int earAt(int h) {
        return told.ears[h] == null ? told.ear : told.ears[h];
    }

    private int rhyme(int kind, Set<Integer> words, int other, Set<Integer> others, int ear) {
        if (kind == 2 || other == 2) {
            return 2;
        }
        int best = -1;
        for (int w : words) {
            for (int u : others) {
                Word a = told.words.get(w);
                Word b = told.words.get(u);
                best = Math.max(best, kind == 1 || other == 1 ? eye(a, b) : like(a, b));
            }
        }
        int degree = best >= ear ? 2 : best == ear - 1 ? 1 : 0;
        return degree == 1 && (kind == 3 || other == 3) ? 2 : degree;
    }

    private int rhyme(int p, int q, int ear) {
        return rhyme(people.get(p).kind, people.get(p).words, people.get(q).kind, people.get(q).words, ear);
    }

    /** With whom one would rhyme fully by these words. */
    private int with(int p, Set<Integer> words, int ear) {
        int bits = 0;
        for (int q = 0; q < people.size(); q++) {
            if (q != p && rhyme(people.get(p).kind, words, people.get(q).kind, people.get(q).words, ear) == 2) {
                bits |= 1 << q;
            }
        }
        return bits;
    }

    private static Set<Integer> plus(Set<Integer> words, int w) {
        Set<Integer> more = new TreeSet<>(words);
        more.add(w);
        return more;
    }

    private int bank(int bank) {
        int bits = 0;
        for (int p = 0; p < people.size(); p++) {
            bits |= people.get(p).bank == bank ? 1 << p : 0;
        }
        return bits;
    }

    /** All sets of pairs among some people, the empty one too, each in the order of its lesser people. */
    private List<List<int[]>> allPairs(int who, int ear) {
        List<List<int[]>> all = new ArrayList<>();
        collect(who, ear, new ArrayList<>(), 0, all);
        return all;
    }

    private void collect(int who, int ear, List<int[]> pairs, int from, List<List<int[]>> all) {
        all.add(new ArrayList<>(pairs));
        for (int p = from; p < people.size(); p++) {
            for (int q = p + 1; q < people.size(); q++) {
                if ((who >> p & 1) == 1 && (who >> q & 1) == 1 && rhyme(p, q, ear) == 2) {
                    pairs.add(new int[] {p, q});
                    collect(who & ~(1 << p | 1 << q), ear, pairs, p + 1, all);
                    pairs.remove(pairs.size() - 1);
                }
            }
        }
    }

    private List<int[]> firstMost(int who, int ear) {
        List<int[]> best = List.of();
        for (List<int[]> pairs : allPairs(who, ear)) {
            if (pairs.size() > best.size() || pairs.size() == best.size() && isAhead(pairs, best)) {
                best = pairs;
            }
        }
        return best;
    }

    private static boolean isAhead(List<int[]> a, List<int[]> b) {
        for (int i = 0; i < a.size(); i++) {
            int order = Arrays.compare(a.get(i), b.get(i));
            if (order != 0) {
                return order < 0;
            }
        }
        return false;
    }

    // ---- calls

    private static final int NONE = -1;

    int word(int w, int what) {
        if (refused(isWord(w) && what >= 0 && what <= 2, true)) {
            return NONE;
        }
        int bits = 0;
        for (int p = 0; p < people.size(); p++) {
            bits |= people.get(p).words.contains(w) ? 1 << p : 0;
        }
        return new int[] {told.words.get(w).price, told.words.get(w).sounds.length(), bits}[what];
    }

    int like(int w, int u) {
        return refused(isWord(w) && isWord(u), true) ? NONE : like(told.words.get(w), told.words.get(u));
    }

    int eye(int w, int u) {
        return refused(isWord(w) && isWord(u), true) ? NONE : eye(told.words.get(w), told.words.get(u));
    }

    int person(int p, int what) {
        if (refused(isPerson(p) && what >= 0 && what <= 4, true)) {
            return NONE;
        }
        int bits = 0;
        for (int w : people.get(p).words) {
            bits |= 1 << w;
        }
        Person it = people.get(p);
        return new int[] {it.kind, it.bank, bits, it.wet, it.errand}[what];
    }

    int ear(int h) {
        return refused(any(), isHour(h)) ? NONE : earAt(h);
    }

    int rhymeAt(int p, int q, int h) {
        return refused(two(p, q), isHour(h)) ? NONE : rhyme(p, q, earAt(h));
    }

    int with(int p, int h) {
        return refused(isPerson(p), isHour(h)) ? NONE : with(p, people.get(p).words, earAt(h));
    }

    int bestHour(int p) {
        if (refused(isPerson(p), true)) {
            return NONE;
        }
        int best = 0;
        for (int h = 1; h < 24; h++) {
            if (Integer.bitCount(with(p, h)) > Integer.bitCount(with(p, best))) {
                best = h;
            }
        }
        return best;
    }

    private int reach(int p, int ear, int seen) {
        int all = seen | 1 << p;
        for (int q = 0; q < people.size(); q++) {
            if ((all >> q & 1) == 0 && rhyme(p, q, ear) == 2) {
                all = reach(q, ear, all);
            }
        }
        return all;
    }

    int classOf(int p, int h) {
        return refused(isPerson(p), isHour(h)) ? NONE : reach(p, earAt(h), 0);
    }

    int classes(int h) {
        if (refused(any(), isHour(h))) {
            return NONE;
        }
        Set<Integer> all = new TreeSet<>();
        for (int p = 0; p < people.size(); p++) {
            all.add(reach(p, earAt(h), 0));
        }
        return all.size();
    }

    int renamed(int p, int w, int h) {
        return refused(isPerson(p) && isWord(w), isHour(h)) ? NONE : with(p, Set.of(w), earAt(h));
    }

    int bestName(int p, int h) {
        if (refused(isPerson(p), isHour(h))) {
            return NONE;
        }
        int best = 0;
        for (int w = 1; w < told.words.size(); w++) {
            if (Integer.bitCount(renamed(p, w, h)) > Integer.bitCount(renamed(p, best, h))) {
                best = w;
            }
        }
        return best;
    }

    int meets(int p, int q) {
        if (refused(two(p, q), true)) {
            return NONE;
        }
        for (int h = 0; h < 24; h++) {
            if (rhyme(p, q, earAt(h)) == 2) {
                return h;
            }
        }
        return -2;
    }

    int often(int p, int q) {
        if (refused(two(p, q), true)) {
            return NONE;
        }
        int count = 0;
        for (int h = 0; h < 24; h++) {
            count += rhyme(p, q, earAt(h)) / 2;
        }
        return count;
    }

    int cheapest(int p, int h) {
        if (refused(isPerson(p), isHour(h))) {
            return NONE;
        }
        Person it = people.get(p);
        for (int price = 0; price <= 99; price++) {
            for (int w = 0; w < told.words.size(); w++) {
                if (told.words.get(w).price == price && !it.words.contains(w)) {
                    int gained = with(p, plus(it.words, w), earAt(h)) & ~with(p, it.words, earAt(h)) & bank(it.bank);
                    if (gained != 0) {
                        return w;
                    }
                }
            }
        }
        return -2;
    }

    private boolean isBank(int bank) {
        return any() && (bank == 0 || bank == 1);
    }

    int pairs(int bank, int h) {
        return refused(isBank(bank), isHour(h)) ? NONE : firstMost(bank(bank), earAt(h)).size();
    }

    int partner(int p, int bank, int h) {
        if (refused(isPerson(p) && isBank(bank), isHour(h))) {
            return NONE;
        }
        for (int[] pair : firstMost(bank(bank), earAt(h))) {
            if (pair[0] == p || pair[1] == p) {
                return pair[0] + pair[1] - p;
            }
        }
        return -2;
    }

    private int lonely(int bank, int ear) {
        int bits = 0;
        for (int p = 0; p < people.size(); p++) {
            boolean there = people.get(p).bank == bank;
            bits |= there && (with(p, people.get(p).words, ear) & bank(bank)) == 0 ? 1 << p : 0;
        }
        return bits;
    }

    int alone(int bank, int h) {
        return refused(isBank(bank), isHour(h)) ? NONE : lonely(bank, earAt(h));
    }

    int kept(int h) {
        if (refused(any(), isHour(h))) {
            return NONE;
        }
        int most = 0;
        for (List<int[]> pairs : allPairs(bank(0), earAt(h))) {
            most = Math.max(most, keptBy(pairs, 0));
        }
        return most;
    }

    /** By every order of the pairs. */
    private int keptBy(List<int[]> pairs, int gone) {
        int most = 0;
        for (int[] pair : pairs) {
            List<int[]> others = new ArrayList<>(pairs);
            others.remove(pair);
            int crossing = gone / told.pairs + 1;
            int now = 0;
            for (int p : pair) {
                now += people.get(p).errand > 0 && people.get(p).errand >= crossing ? 1 : 0;
            }
            most = Math.max(most, now + keptBy(others, gone + 1));
        }
        return most;
    }

    private int untrue(int ear) {
        for (int i = 0; i < told.gots.size(); i++) {
            Got got = told.gots.get(i);
            if (rhyme(got.p, got.q, ear) != got.degree) {
                return i;
            }
        }
        return -2;
    }

    int judge() {
        return refused(any(), true) ? NONE : untrue(told.ear);
    }

    /** The least coins by every way in which each is in a pair, and each buys one word or none. */
    int coins(int bank, int h) {
        return refused(isBank(bank), isHour(h)) ? NONE : coinsFor(bank(bank), earAt(h));
    }

    private int coinsFor(int who, int ear) {
        if (who == 0) {
            return 0;
        }
        int p = Integer.numberOfTrailingZeros(who);
        int least = -2;
        for (int q = p + 1; q < people.size(); q++) {
            int rest = (who >> q & 1) == 0 ? -2 : coinsFor(who & ~(1 << p | 1 << q), ear);
            int pair = rest < 0 ? -2 : pairCoins(people.get(p), people.get(q), ear);
            if (rest >= 0 && pair >= 0 && (least < 0 || rest + pair < least)) {
                least = rest + pair;
            }
        }
        return least;
    }

    private int pairCoins(Person p, Person q, int ear) {
        int least = -2;
        for (int w = -1; w < told.words.size(); w++) {
            for (int u = -1; u < told.words.size(); u++) {
                int paidNow = priceFor(p, w) + priceFor(q, u);
                Set<Integer> words = w < 0 ? p.words : plus(p.words, w);
                Set<Integer> others = u < 0 ? q.words : plus(q.words, u);
                if (rhyme(p.kind, words, q.kind, others, ear) == 2 && (least < 0 || paidNow < least)) {
                    least = paidNow;
                }
            }
        }
        return least;
    }

    private int priceFor(Person p, int w) {
        return w < 0 || p.words.contains(w) ? 0 : told.words.get(w).price;
    }

    int keep(int bank, int h) {
        if (refused(isBank(bank), isHour(h))) {
            return NONE;
        }
        int best = -2;
        List<Person> before = people;
        for (int bits = 0; bits < 1 << told.words.size(); bits++) {
            if (best < 0 || Integer.bitCount(bits) < Integer.bitCount(best)) {
                people = new ArrayList<>();
                for (Person person : before) {
                    Person richer = person.copy();
                    for (int w = 0; w < told.words.size(); w++) {
                        if ((bits >> w & 1) == 1) {
                            richer.words.add(w);
                        }
                    }
                    people.add(richer);
                }
                if (canAll(bank(bank), earAt(h))) {
                    best = bits;
                }
            }
        }
        people = before;
        return best;
    }

    private boolean canAll(int who, int ear) {
        boolean can = who == 0;
        int p = Integer.numberOfTrailingZeros(who);
        for (int q = p + 1; q < people.size() && !can; q++) {
            can = (who >> q & 1) == 1 && rhyme(p, q, ear) == 2 && canAll(who & ~(1 << p | 1 << q), ear);
        }
        return can;
    }

    int refrain(int bank, int h) {
        if (refused(isBank(bank), isHour(h))) {
            return NONE;
        }
        int best = -2;
        for (int bits = 0; bits < 1 << told.words.size(); bits++) {
            boolean all = true;
            for (Person p : people) {
                boolean one = p.bank != bank;
                for (int w = 0; w < told.words.size(); w++) {
                    one |= (bits >> w & 1) == 1 && rhyme(p.kind, p.words, 0, Set.of(w), earAt(h)) == 2;
                }
                all &= one;
            }
            if (all && (best < 0 || Integer.bitCount(bits) < Integer.bitCount(best))) {
                best = bits;
            }
        }
        return best;
    }

    private List<Integer> ears() {
        List<Integer> ears = new ArrayList<>();
        for (int ear = 1; ear <= 6; ear++) {
            if (untrue(ear) == -2) {
                ears.add(ear);
            }
        }
        return ears;
    }

    int heard() {
        return refused(any(), true) ? NONE : ears().size();
    }

    int heardEar(boolean most) {
        if (refused(any(), true)) {
            return NONE;
        }
        List<Integer> ears = ears();
        return ears.isEmpty() ? -2 : ears.get(most ? ears.size() - 1 : 0);
    }

    int ask(boolean leaves) {
        if (refused(any(), true)) {
            return NONE;
        }
        int fewest = 99;
        int which = -2;
        for (int p = 0; p < people.size() && !ears().isEmpty(); p++) {
            for (int q = p + 1; q < people.size(); q++) {
                int[] left = new int[3];
                for (int ear : ears()) {
                    left[rhyme(p, q, ear)]++;
                }
                int most = Arrays.stream(left).max().getAsInt();
                if (most < fewest) {
                    fewest = most;
                    which = 10 * p + q;
                }
            }
        }
        return which == -2 || !leaves ? which : fewest;
    }

    private int has(int w, int price, int u, int others, int ear, boolean other) {
        int coins = 0;
        for (int p = 0; p < people.size(); p++) {
            if ((lonely(0, ear) >> p & 1) == 1) {
                Set<Integer> words = people.get(p).words;
                boolean by = (with(p, plus(words, w), ear) & bank(0)) != 0;
                boolean byOther = (with(p, plus(words, u), ear) & bank(0)) != 0;
                boolean first = by && (!byOther || price <= others);
                coins += other ? byOther && !first ? others : 0 : first ? price : 0;
            }
        }
        return coins;
    }

    private boolean twoWords(int w, int u) {
        return isWord(w) && isWord(u) && w != u;
    }

    int sells(int w, int price, int u, int others, int h, boolean other) {
        boolean numbers = price >= 0 && price <= 9 && others >= 0 && others <= 9 && isHour(h);
        return refused(twoWords(w, u), numbers) ? NONE : has(w, price, u, others, earAt(h), other);
    }

    int rests(int w, int u, int h, boolean first) {
        if (refused(twoWords(w, u), isHour(h))) {
            return NONE;
        }
        int[][] one = new int[10][10];
        int[][] other = new int[10][10];
        for (int a = 0; a < 10; a++) {
            for (int b = 0; b < 10; b++) {
                one[a][b] = has(w, a, u, b, earAt(h), false);
                other[a][b] = has(w, a, u, b, earAt(h), true);
            }
        }
        List<Integer> rests = new ArrayList<>();
        for (int a = 0; a < 10; a++) {
            for (int b = 0; b < 10; b++) {
                boolean rest = true;
                for (int c = 0; c < 10; c++) {
                    rest &= one[c][b] <= one[a][b] && other[a][c] <= other[a][b];
                }
                if (rest) {
                    rests.add(10 * a + b);
                }
            }
        }
        return !first ? rests.size() : rests.isEmpty() ? -2 : rests.get(0);
    }

    /** How many crossed, or, of a person, in which hour. */
    int day(int p, int seed, int n) {
        boolean numbers = seed >= 0 && seed <= 65536 && n >= 0 && n <= 24;
        int[] crossed = new int[8];
        int near = bank(0);
        int count = 0;
        for (int i = 1; i <= n && numbers && any(); i++) {
            seed = (int) ((75L * seed + 74) % 65537);
            int ear = Math.max(1, earAt((hour + i - 1) % 24) + seed % 3 - 1);
            List<int[]> pairs = firstMost(near, ear);
            for (int[] pair : pairs.subList(0, Math.min(told.pairs, pairs.size()))) {
                near &= ~(1 << pair[0] | 1 << pair[1]);
                crossed[pair[0]] = i;
                crossed[pair[1]] = i;
                count += 2;
            }
        }
        if (p == -2) {
            return refused(any(), numbers) ? NONE : count;
        }
        return refused(isPerson(p), numbers) ? NONE : crossed[p] == 0 ? -2 : crossed[p];
    }

    // ---- acts

    private State now() {
        List<Person> copies = new ArrayList<>();
        for (Person person : people) {
            copies.add(person.copy());
        }
        return new State(hour, paid, copies);
    }

    private void go(State state) {
        hour = state.hour;
        paid = state.paid;
        people = new ArrayList<>();
        for (Person person : state.people) {
            people.add(person.copy());
        }
    }

    private void remember() {
        past.add(now());
        if (past.size() > 16) {
            past.remove(0);
        }
    }

    int cross(int p, int q) {
        if (refused(two(p, q), true)) {
            return NONE;
        }
        int degree = rhyme(p, q, earAt(hour));
        if (people.get(p).bank != people.get(q).bank || degree == 0) {
            trouble = 5;
            return NONE;
        }
        remember();
        for (int each : new int[] {p, q}) {
            people.get(each).bank = 1 - people.get(each).bank;
            people.get(each).wet += 2 - degree;
        }
        return degree;
    }

    int buy(int p, int w) {
        if (refused(isPerson(p) && isWord(w), true)) {
            return NONE;
        }
        if (people.get(p).words.contains(w)) {
            trouble = 5;
            return NONE;
        }
        remember();
        people.get(p).words.add(w);
        paid += told.words.get(w).price;
        return paid;
    }

    int hours(int n) {
        if (refused(any(), n >= 1 && n <= 23)) {
            return NONE;
        }
        remember();
        hour = (hour + n) % 24;
        return hour;
    }

    int undo() {
        trouble = past.isEmpty() ? 6 : 0;
        if (past.isEmpty()) {
            return 0;
        }
        go(past.remove(past.size() - 1));
        return 1;
    }

    int image() {
        if (refused(any(), true)) {
            return NONE;
        }
        if (images.size() == 3) {
            trouble = 3;
            return NONE;
        }
        images.add(now());
        return images.size() - 1;
    }

    int back(int image) {
        if (refused(image >= 0 && image < images.size(), true)) {
            return 0;
        }
        go(images.get(image));
        past.clear();
        return 1;
    }

    /** The i-th wet one, or -9 where the document wants an exception. */
    int led(int i) {
        List<Integer> wet = new ArrayList<>();
        for (int p = 0; p < people.size(); p++) {
            if (people.get(p).wet > 0) {
                wet.add(p);
            }
        }
        return i >= 0 && i < wet.size() ? wet.get(i) : -9;
    }

    int size(int what) {
        int ears = 0;
        for (Integer ear : told.ears) {
            ears += ear == null ? 0 : 1;
        }
        int errands = 0;
        for (Person person : people) {
            errands += person.errand > 0 ? 1 : 0;
        }
        int[] sizes = {told.ear, told.pairs, told.words.size(), people.size(), told.alikes.size() / 2, ears, errands,
            told.gots.size(), hour, paid, past.size(), images.size(), 0};
        return what >= 0 && what < sizes.length ? sizes[what] : NONE;
    }

    int where() {
        return trouble == 4 ? where : -1;
    }
}
