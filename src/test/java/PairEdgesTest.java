/** Promises 21 to 28 at their edges: a bank with nobody, with one, with all; what can't be. */
final class PairEdgesTest {
    private static final Check CHECK = new Check();
    /** Nobody rhymes with another by any word but his own. */
    private static final String WORDS = ";word a sounds aa price 1;word b sounds bb price 2;word c sounds cc price 3"
        + ";word d sounds dd price 4";

    public static void main(String[] args) {
        nobodyThere();
        oneThere();
        eightThere();
        mostThenFirst();
        inAPairBeforeInNone();
        whoIsNotThere();
        alone();
        crossingsAndErrands();
        mayGoAlong();
        keptOnTheNearBankOnly();
        judge();
        coins();
        dearestCoins();
        keep();
        refrain();
        CHECK.end();
    }

    /** People m, n, .. of one kind each with a word of WORDS, all on a bank. */
    private static String people(String bank, String... words) {
        StringBuilder text = new StringBuilder();
        for (int i = 0; i < words.length; i++) {
            text.append(";person ").append((char) ('m' + i)).append(" plain on ").append(bank).append(" has ").append(words[i]);
        }
        return text.toString();
    }

    private static RhymeFerry ferry(int ear, int pairs, String more) {
        return Check.told("ferry ear " + ear + " pairs " + pairs + WORDS + more);
    }

    // ---- banks

    private static void nobodyThere() {
        for (int bank = 0; bank < 2; bank++) {
            RhymeFerry x = ferry(2, 1, people(bank == 0 ? "far" : "near", "a", "a", "b") + ";errand m by 1;hour 5 ear 6");
            for (int hour : new int[] {0, 5, 23}) {
                CHECK.answer(x, "pairs", x.pairs(bank, hour), 0);
                CHECK.answer(x, "partner", x.partner(0, bank, hour), -2);
                CHECK.answer(x, "alone", x.alone(bank, hour), 0);
                CHECK.answer(x, "coins", x.coins(bank, hour), 0);
                CHECK.answer(x, "keep", x.keep(bank, hour), 0);
                CHECK.answer(x, "refrain", x.refrain(bank, hour), 0);
            }
            CHECK.answer(x, "kept", x.kept(0), bank == 0 ? 0 : 1);
            CHECK.answer(x, "sells", x.sells(0, 9, 1, 9, 0, false), bank == 0 ? 0 : 9);
            CHECK.answer(x, "day", x.day(0, 24), bank == 0 ? 0 : 2);
        }
    }

    private static void oneThere() {
        for (int bank = 0; bank < 2; bank++) {
            for (String kind : new String[] {"plain", "poet", "child"}) {
                RhymeFerry x = ferry(2, 1, ";person m " + kind + " on " + (bank == 0 ? "near" : "far") + " has b;person n plain on "
                    + (bank == 0 ? "far" : "near") + " has b;errand m by 4;errand n by 4");
                CHECK.answer(x, "pairs", x.pairs(bank, 0), 0);
                CHECK.answer(x, "partner", x.partner(0, bank, 0), -2);
                CHECK.answer(x, "alone", x.alone(bank, 0), 1);
                CHECK.answer(x, "coins", x.coins(bank, 0), -2);
                CHECK.answer(x, "keep", x.keep(bank, 0), -2);
                CHECK.answer(x, "refrain", x.refrain(bank, 0), kind.equals("child") ? 1 : 2);
                CHECK.answer(x, "kept", x.kept(0), 0);
            }
        }
    }

    private static void eightThere() {
        for (int bank = 0; bank < 2; bank++) {
            RhymeFerry x = ferry(2, 1, people(bank == 0 ? "near" : "far", "d", "d", "d", "d", "d", "d", "d", "d"));
            CHECK.answer(x, "four pairs", x.pairs(bank, 0), 4);
            for (int p = 0; p < 8; p++) {
                CHECK.answer(x, "each with the next", x.partner(p, bank, 0), p ^ 1);
            }
            CHECK.answer(x, "nobody is alone", x.alone(bank, 0), 0);
            CHECK.answer(x, "for nothing", x.coins(bank, 0), 0);
            CHECK.answer(x, "by nothing", x.keep(bank, 0), 0);
            CHECK.answer(x, "the one word", x.refrain(bank, 0), 8);
        }
    }

    // ---- PAIRS

    /** "as many as can be; of like ones the first". */
    private static void mostThenFirst() {
        // m rhymes with all, n with o: with n, m would leave o and p alone.
        RhymeFerry x = ferry(2, 1, people("near", "a", "b", "b", "c") + ";knows m b;knows m c");
        CHECK.answer(x, "two", x.pairs(0, 0), 2);
        int[] partners = {3, 2, 1, 0};
        for (int p = 0; p < 4; p++) {
            CHECK.answer(x, "partner of " + p, x.partner(p, 0, 0), partners[p]);
        }
        // Any two of m, n, o, p: the first of three ways.
        RhymeFerry y = ferry(2, 1, people("near", "a", "a", "a", "a"));
        int[] first = {1, 0, 3, 2};
        for (int p = 0; p < 4; p++) {
            CHECK.answer(y, "partner of " + p, y.partner(p, 0, 0), first[p]);
        }
        // A row n - m - o - p - q: m with n, and then, of what is left alone, o with p.
        RhymeFerry row = ferry(2, 1, people("near", "a", "a", "b", "c", "d") + ";knows m b;knows o c;knows p d");
        int[] along = {1, 0, 3, 2, -2};
        for (int p = 0; p < 5; p++) {
            CHECK.answer(row, "partner of " + p, row.partner(p, 0, 0), along[p]);
        }
        // m - n or m - o, then p with who is left of q and r: each the least.
        RhymeFerry z = ferry(2, 1, people("near", "a", "a", "a", "b", "b", "b"));
        int[] least = {1, 0, -2, 4, 3, -2};
        for (int p = 0; p < 6; p++) {
            CHECK.answer(z, "partner of " + p, z.partner(p, 0, 0), least[p]);
        }
    }

    /** "(persons by numbers, in a pair before in none)". */
    private static void inAPairBeforeInNone() {
        // m - o or n - o: one pair either way, and m is the lesser.
        RhymeFerry x = ferry(2, 1, people("near", "a", "b", "a") + ";knows o b");
        CHECK.answer(x, "one", x.pairs(0, 0), 1);
        CHECK.answer(x, "m is in it", x.partner(0, 0, 0), 2);
        CHECK.answer(x, "n is not", x.partner(1, 0, 0), -2);
        CHECK.answer(x, "o with m", x.partner(2, 0, 0), 0);
        // m with nobody at all, n with the last.
        RhymeFerry y = ferry(2, 1, people("near", "a", "b", "c", "b"));
        CHECK.answer(y, "m with nobody", y.partner(0, 0, 0), -2);
        CHECK.answer(y, "n with p", y.partner(1, 0, 0), 3);
        // By half there is no pair.
        RhymeFerry half = ferry(3, 1, people("near", "a", "a"));
        CHECK.answer(half, "they rhyme by half", half.rhyme(0, 1, 0), 1);
        CHECK.answer(half, "no pair", half.pairs(0, 0), 0);
        CHECK.answer(half, "no partner", half.partner(0, 0, 0), -2);
        CHECK.answer(half, "both alone", half.alone(0, 0), 3);
    }

    /** Promise 22: "-2 with nobody, he isn't there". */
    private static void whoIsNotThere() {
        RhymeFerry x = ferry(2, 1, people("near", "a", "a", "a") + ";person z plain on far has a");
        CHECK.answer(x, "he is over there", x.partner(3, 0, 0), -2);
        CHECK.answer(x, "there he is alone", x.partner(3, 1, 0), -2);
        CHECK.answer(x, "he isn't over there", x.partner(0, 1, 0), -2);
        x.cross(0, 1);
        CHECK.answer(x, "by the bank NOW", x.partner(0, 1, 0), 1);
        CHECK.answer(x, "no more here", x.partner(0, 0, 0), -2);
        CHECK.answer(x, "the third is left", x.partner(3, 1, 0), -2);
    }

    private static void alone() {
        RhymeFerry x = ferry(2, 1, people("near", "a", "b", "b", "c") + ";person z plain on far has a;person y plain on far has c");
        CHECK.answer(x, "whom nobody there rhymes with", x.alone(0, 0), 9);
        CHECK.answer(x, "over there", x.alone(1, 0), 48);
        CHECK.answer(x, "at 23", x.alone(0, 23), 9);
        // p is in no pair, yet o rhymes with him: he isn't alone.
        RhymeFerry y = ferry(2, 1, people("near", "a", "a", "a"));
        CHECK.answer(y, "left over, but not alone", y.alone(0, 0), 0);
        CHECK.answer(y, "left over", y.partner(2, 0, 0), -2);
    }

    // ---- errands

    /** "each of as many pairs as the ferry has; .. kept if he crosses with one of as many or fewer". */
    private static void crossingsAndErrands() {
        String eight = people("near", "a", "a", "b", "b", "c", "c", "d", "d");
        for (int by = 1; by <= 4; by++) {
            StringBuilder errands = new StringBuilder();
            for (int p = 0; p < 8; p++) {
                errands.append(";errand ").append((char) ('m' + p)).append(" by ").append(by);
            }
            for (int pairs = 1; pairs <= 3; pairs++) {
                RhymeFerry x = ferry(2, pairs, eight + errands);
                CHECK.answer(x, "by " + by + ", " + pairs + " pairs", x.kept(0), Math.min(8, 2 * pairs * by));
            }
        }
        RhymeFerry last = ferry(2, 1, eight + ";errand m by 4;errand o by 3;errand q by 2;errand s by 1");
        CHECK.answer(last, "each just in time", last.kept(0), 4);
        RhymeFerry late = ferry(2, 1, eight + ";errand m by 3;errand o by 3;errand q by 2;errand s by 1");
        CHECK.answer(late, "one too late", late.kept(0), 3);
        CHECK.answer(late, "at 23", late.kept(23), 3);
    }

    /** "(who has no errand may go along)", "by any PAIRS of an hour, in any order". */
    private static void mayGoAlong() {
        RhymeFerry x = ferry(2, 1, people("near", "a", "b", "a", "b") + ";errand o by 1;errand p by 2");
        CHECK.answer(x, "each with one who has none", x.kept(0), 2);
        // m - n - o: m and o have errands, n alone can go with either.
        RhymeFerry y = ferry(2, 3, people("near", "a", "b", "c") + ";knows n a;knows n c;errand m by 4;errand o by 4");
        CHECK.answer(y, "nobody goes twice", y.kept(0), 1);
        // Not the most pairs: m and n at once keep more than m - o, n - p would.
        RhymeFerry z = ferry(2, 1, people("near", "a", "a", "b", "c") + ";knows m b;knows n c;errand m by 1;errand n by 1");
        CHECK.answer(z, "one pair that keeps two", z.kept(0), 2);
        RhymeFerry half = ferry(3, 1, people("near", "a", "a") + ";errand m by 4;hour 2 ear 2");
        CHECK.answer(half, "by half nobody crosses", half.kept(0), 0);
        CHECK.answer(half, "at another hour", half.kept(2), 1);
    }

    private static void keptOnTheNearBankOnly() {
        RhymeFerry x = ferry(2, 1, people("near", "a", "a", "a") + ";errand m by 1;errand n by 1;errand o by 1");
        CHECK.answer(x, "two of three", x.kept(0), 2);
        x.cross(0, 1);
        CHECK.answer(x, "one is left alone", x.kept(0), 0);
        x.cross(0, 1);
        CHECK.answer(x, "as before", x.kept(0), 2);
    }

    /** Promise 25: "The first got that isn't so by the ferry's EAR (as told for no hour); -2." */
    private static void judge() {
        String two = people("near", "a", "a") + ";person z plain on far has b";
        CHECK.due("nothing got", ferry(2, 1, two).judge(), -2);
        String[] answers = {"back", "wet", "over"};
        for (int ear = 2; ear <= 4; ear++) {
            for (int i = 0; i < 3; i++) {
                // Of two letters: over by ear 2, wet by 3, back by 4.
                RhymeFerry x = ferry(ear, 1, two + ";got m n " + answers[i] + ";hour 0 ear 1");
                CHECK.answer(x, answers[i] + " by " + ear, x.judge(), 4 - ear == i ? -2 : 0);
            }
        }
        StringBuilder six = new StringBuilder(two);
        for (int i = 0; i < 5; i++) {
            six.append(";got m n over");
        }
        CHECK.due("the sixth", ferry(2, 1, six + ";got m z over").judge(), 5);
        CHECK.due("none of six", ferry(2, 1, six + ";got m z back").judge(), -2);
        CHECK.due("the first of two", ferry(2, 1, two + ";got m n over;got z m wet;got n z over").judge(), 1);
    }

    // ---- words bought

    /** "any number for any, each for its price, so that all of them are in PAIRS". */
    private static void coins() {
        RhymeFerry x = ferry(2, 1, people("near", "a", "b"));
        CHECK.answer(x, "n buys a", x.coins(0, 0), 1);
        CHECK.answer(x, "by a", x.keep(0, 0), 1);
        RhymeFerry odd = ferry(2, 1, people("near", "a", "a", "a"));
        CHECK.answer(odd, "three", odd.coins(0, 0), -2);
        CHECK.answer(odd, "three", odd.keep(0, 0), -2);
        RhymeFerry none = ferry(2, 1, people("near", "a", "b") + ";hour 3 ear 3");
        CHECK.answer(none, "no word is long enough", none.coins(0, 3), -2);
        CHECK.answer(none, "no word is long enough", none.keep(0, 3), -2);
        RhymeFerry child = ferry(2, 1, people("near", "a") + ";person z child on near has b;hour 3 ear 6");
        CHECK.answer(child, "a child at any ear", child.coins(0, 3), 0);
        CHECK.answer(child, "a child at any ear", child.keep(0, 3), 0);
        // The least coins are not by the first pairs: m - n and o - p would cost 1 and 2.
        RhymeFerry best = ferry(2, 1, people("near", "a", "b", "c", "d") + ";knows p b");
        CHECK.answer(best, "n - p rhyme already; a for o", best.coins(0, 0), 1);
        CHECK.answer(best, "a", best.keep(0, 0), 1);
        RhymeFerry zero = Check.told("ferry ear 2 pairs 1;word a sounds ab price 9;word b sounds cd price 0;person m plain on far has a"
            + ";person n plain on far has b");
        CHECK.answer(zero, "a word of price 0", zero.coins(1, 0), 0);
        CHECK.answer(zero, "though the one costs more: the least bits", zero.keep(1, 0), 1);
    }

    /** Eight people who all must buy the one word that is long enough, the dearest there is. */
    private static void dearestCoins() {
        String word = "ferry ear 3 pairs 1;word a sounds aa price 0;word b sounds abc price 99";
        RhymeFerry x = Check.told(word + people("near", "a", "a", "a", "a", "a", "a", "a", "a"));
        CHECK.answer(x, "eight times 99", x.coins(0, 0), 792);
        CHECK.answer(x, "one word", x.keep(0, 0), 2);
        x.buy(7, 1);
        CHECK.answer(x, "seven times", x.coins(0, 0), 693);
        CHECK.answer(x, "one word still", x.keep(0, 0), 2);
    }

    /** "the fewest by which that can be (..): of like ones the least bits". */
    private static void keep() {
        RhymeFerry x = ferry(2, 1, people("near", "a", "b", "c", "d"));
        CHECK.answer(x, "the first word alone is enough", x.keep(0, 0), 1);
        // Of three plain ones and a deaf one two pair by sounds, two by names: a word for both comes before two words.
        String words = "ferry ear 4 pairs 1;word a sounds ha price 1;word abcd sounds ab price 1;word b sounds abcd price 1"
            + ";word bbcd sounds bbcd price 1";
        String two = ";person m plain on near has a;person n plain on near has a";
        String more = ";person o plain on near has a;person p deaf on near has a";
        RhymeFerry both = Check.told(words + two + more);
        CHECK.answer(both, "one for ear and eye before two", both.keep(0, 0), 8);
        RhymeFerry ear = Check.told(words + two);
        CHECK.answer(ear, "the least bits of two words", ear.keep(0, 0), 4);
        RhymeFerry eye = Check.told(words + more);
        CHECK.answer(eye, "by eye", eye.keep(0, 0), 2);
        RhymeFerry apart = Check.told(words.replace("word bbcd sounds bbcd", "word c sounds abcd") + two + more);
        CHECK.answer(apart, "two words, the least bits", apart.keep(0, 0), 6);
        // The tenth word alone is long enough.
        RhymeFerry tenth = Check.told(Check.FULL.replace("word j sounds ab", "word j sounds abc").replace("ear 2", "ear 3"));
        CHECK.answer(tenth, "the tenth word", tenth.keep(0, 0), 512);
        CHECK.answer(tenth, "eight times its price", tenth.coins(0, 0), 72);
    }

    /** "the fewest words such that everybody on a bank RHYMES FULLY with one of them". */
    private static void refrain() {
        RhymeFerry x = ferry(2, 1, people("near", "a", "b", "c", "d") + ";person z plain on far has a;hour 3 ear 3");
        CHECK.answer(x, "each needs his own", x.refrain(0, 0), 15);
        CHECK.answer(x, "one there", x.refrain(1, 0), 1);
        CHECK.answer(x, "it can't be", x.refrain(0, 3), -2);
        CHECK.answer(x, "nor there", x.refrain(1, 3), -2);
        x.buy(0, 3);
        x.buy(1, 2);
        CHECK.answer(x, "two are enough now", x.refrain(0, 0), 12);
        RhymeFerry least = ferry(2, 1, people("near", "a", "b") + ";knows m b;knows n a");
        CHECK.answer(least, "the least bits of like ones", least.refrain(0, 0), 1);
        RhymeFerry poet = Check.told("ferry ear 3 pairs 1;word a sounds ab price 1;person m poet on near has a;person n plain on far has a");
        CHECK.answer(poet, "a poet by half", poet.refrain(0, 0), 1);
        CHECK.answer(poet, "a plain one not", poet.refrain(1, 0), -2);
        RhymeFerry deaf = Check.told("ferry ear 2 pairs 1;word xab sounds cd price 1;word yab sounds ef price 1;word z sounds cd price 1"
            + ";person m deaf on near has yab;person n deaf on far has z");
        CHECK.answer(deaf, "a deaf one by names", deaf.refrain(0, 0), 1);
        CHECK.answer(deaf, "a name of one letter", deaf.refrain(1, 0), -2);
        RhymeFerry tenth = Check.told(Check.FULL.replace("word j sounds ab", "word j sounds abc").replace("ear 2", "ear 3")
            .replace("has a", "has j"));
        CHECK.answer(tenth, "the tenth word", tenth.refrain(0, 0), 512);
    }
}
