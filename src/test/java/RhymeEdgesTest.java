/** Terms II and promises 6 to 20 at their edges: how far words sound alike, and who rhymes with whom. */
final class RhymeEdgesTest {
    private static final Check CHECK = new Check();
    private static final String HOURS = ";hour 1 ear 1;hour 2 ear 2;hour 3 ear 3;hour 4 ear 4;hour 5 ear 5;hour 6 ear 6";
    private static final String[] KINDS = {"plain", "deaf", "child", "poet"};

    public static void main(String[] args) {
        lettersInCommon();
        alikeByTwo();
        ofAWord();
        ofAPerson();
        earAtEveryHour();
        bySounds();
        byNames();
        kindsTogether();
        byAnyWordEachHas();
        withWhom();
        bestHour();
        classes();
        names();
        meetsAndOften();
        cheapest();
        CHECK.end();
    }

    /** Word k of seven, s to y, has the last k letters of abcdef, and no more. */
    private static String sevenWords() {
        String[] sounds = {"hhhhhg", "hhhhgf", "hhhgef", "hhgdef", "hgcdef", "gbcdef", "abcdef"};
        StringBuilder text = new StringBuilder();
        for (int k = 0; k < 7; k++) {
            text.append(";word ").append((char) ('s' + k)).append(" sounds ").append(sounds[k]).append(" price 0");
        }
        return text.toString();
    }

    /** Seven words whose names have the last k letters of abcdef, all of the same sounds. */
    private static String sevenNames() {
        String[] names = {"y", "yf", "yef", "ydef", "ycdef", "ybcdef", "yabcdef"};
        StringBuilder text = new StringBuilder();
        for (String name : names) {
            text.append(";word ").append(name).append(" sounds abcdef price 0");
        }
        return text.append(";word zabcdef sounds gh price 0").toString();
    }

    /** The first has the last word, each other one the word of his number less one. */
    private static String people(String first, String others, String last, String... words) {
        StringBuilder text = new StringBuilder(";person a ").append(first).append(" on near has ").append(last);
        for (int i = 0; i < 7; i++) {
            text.append(";person ").append((char) ('b' + i)).append(' ').append(others).append(" on ")
                .append(i % 2 == 0 ? "near" : "far").append(" has ").append(words[i]);
        }
        return text.toString();
    }

    // ---- LIKE, and names in common

    /** "how many letters from the end on are the same .. till one that isn't, or one has no more". */
    private static void lettersInCommon() {
        RhymeFerry x = Check.told("ferry ear 2 pairs 1" + sevenWords() + ";person a plain on near has s");
        for (int w = 0; w < 7; w++) {
            for (int u = 0; u < 7; u++) {
                CHECK.answer(x, "like " + w + " " + u, x.like(w, u), w == u ? 6 : Math.min(w, u));
            }
        }
        RhymeFerry y = Check.told("ferry ear 2 pairs 1;word a sounds ab price 0;word ba sounds cab price 0"
            + ";word cba sounds dcab price 0;word bb sounds bab price 0;word abcdefgh sounds ababab price 0"
            + ";word bbcdefgh sounds bbabab price 0;person p plain on near has a");
        int[][] likes = {{2, 2, 2, 2, 2, 2}, {2, 3, 3, 2, 2, 2}, {2, 3, 4, 2, 2, 2}, {2, 2, 2, 3, 3, 3},
            {2, 2, 2, 3, 6, 5}, {2, 2, 2, 3, 5, 6}};
        int[][] eyes = {{1, 1, 1, 0, 0, 0}, {1, 2, 2, 0, 0, 0}, {1, 2, 3, 0, 0, 0}, {0, 0, 0, 2, 0, 0},
            {0, 0, 0, 0, 8, 7}, {0, 0, 0, 0, 7, 8}};
        for (int w = 0; w < 6; w++) {
            for (int u = 0; u < 6; u++) {
                CHECK.answer(y, "like " + w + " " + u, y.like(w, u), likes[w][u]);
                CHECK.answer(y, "eye " + w + " " + u, y.eye(w, u), eyes[w][u]);
            }
        }
    }

    /** "(of these two alone: if a and b are alike, b and c, a and c needn't be)". */
    private static void alikeByTwo() {
        String words = ";word ka sounds ga price 0;word kb sounds gb price 0;word kc sounds gc price 0"
            + ";word kh sounds hh price 0;person p plain on near has ka";
        RhymeFerry x = Check.told("ferry ear 2 pairs 1" + words + ";alike a b;alike b c;alike h g");
        int[][] likes = {{2, 2, 0, 0}, {2, 2, 2, 0}, {0, 2, 2, 0}, {0, 0, 0, 2}};
        for (int w = 0; w < 4; w++) {
            for (int u = 0; u < 4; u++) {
                CHECK.answer(x, "like " + w + " " + u, x.like(w, u), likes[w][u]);
                CHECK.answer(x, "names are not alike", x.eye(w, u), w == u ? 2 : 0);
            }
        }
        RhymeFerry y = Check.told("ferry ear 2 pairs 1" + words + ";alike c a");
        CHECK.answer(y, "told as c a", y.like(0, 2), 2);
        CHECK.answer(y, "and the other way", y.like(2, 0), 2);
        CHECK.answer(y, "not b", y.like(0, 1), 0);
        RhymeFerry z = Check.told("ferry ear 2 pairs 1;word k sounds aa price 0;word l sounds hh price 0;alike a h"
            + ";word m sounds ab price 0;word n sounds hg price 0;person p plain on near has k");
        CHECK.answer(z, "each letter alike", z.like(0, 1), 2);
        CHECK.answer(z, "till one that isn't", z.like(2, 3), 0);
    }

    // ---- words, people, ears

    private static void ofAWord() {
        RhymeFerry x = Check.told("ferry ear 2 pairs 1;word a sounds ab price 0;word b sounds abcdef price 99"
            + ";word c sounds ab price 5;person m plain on near has a;person n plain on far has a;person o plain on far has b");
        CHECK.answer(x, "the least price", x.word(0, 0), 0);
        CHECK.answer(x, "the greatest price", x.word(1, 0), 99);
        CHECK.answer(x, "fewest letters", x.word(0, 1), 2);
        CHECK.answer(x, "most letters", x.word(1, 1), 6);
        CHECK.answer(x, "on either bank", x.word(0, 2), 3);
        CHECK.answer(x, "nobody has it", x.word(2, 2), 0);
        x.buy(2, 2);
        CHECK.answer(x, "NOW one has", x.word(2, 2), 4);
        x.undo();
        CHECK.answer(x, "NOW nobody has", x.word(2, 2), 0);
    }

    private static void ofAPerson() {
        RhymeFerry x = Check.told("ferry ear 3 pairs 1;word a sounds ab price 1;word b sounds ab price 1"
            + ";person m plain on near has a;person n deaf on far has b;person o child on near has a;person p poet on far has b"
            + ";person q plain on near has b;errand m by 4;errand n by 1");
        for (int p = 0; p < 4; p++) {
            CHECK.answer(x, "kind", x.person(p, 0), p);
            CHECK.answer(x, "bank", x.person(p, 1), p % 2);
            CHECK.answer(x, "words", x.person(p, 2), 1 + p % 2);
            CHECK.answer(x, "dry", x.person(p, 3), 0);
            CHECK.answer(x, "errand", x.person(p, 4), p == 0 ? 4 : p == 1 ? 1 : 0);
        }
        for (int i = 1; i <= 3; i++) {
            CHECK.answer(x, "by half", x.cross(0, 4), 1);
            CHECK.answer(x, "the bank NOW", x.person(0, 1), i % 2);
            CHECK.answer(x, "how often wet", x.person(0, 3), i);
            CHECK.answer(x, "how often wet", x.person(4, 3), i);
            CHECK.answer(x, "another is dry", x.person(2, 3), 0);
        }
        CHECK.answer(x, "the errand as told", x.person(0, 4), 4);
    }

    /** "EAR at an hour: as told for it, else the ferry's." */
    private static void earAtEveryHour() {
        RhymeFerry x = Check.told("ferry ear 5 pairs 1;word a sounds ab price 1;person m plain on near has a"
            + ";hour 0 ear 1;hour 23 ear 6;hour 22 ear 5;hour 12 ear 2");
        for (int hour = 0; hour < 24; hour++) {
            CHECK.answer(x, "ear at " + hour, x.ear(hour), hour == 0 ? 1 : hour == 23 ? 6 : hour == 12 ? 2 : 5);
        }
        CHECK.due("the ferry's", x.size(0), 5);
        CHECK.due("told though the same", x.size(5), 4);
    }

    // ---- RHYMES

    /** "FULLY if LIKE is EAR or more, by HALF if it is one less"; a poet's HALF is FULLY; a child always. */
    private static void bySounds() {
        String[] words = {"s", "t", "u", "v", "w", "x", "y"};
        for (String first : new String[] {"plain", "poet", "child"}) {
            for (String others : new String[] {"plain", "poet", "child"}) {
                RhymeFerry x = Check.told("ferry ear 2 pairs 1" + sevenWords() + people(first, others, "y", words) + HOURS);
                for (int k = 0; k < 7; k++) {
                    for (int ear = 1; ear <= 6; ear++) {
                        CHECK.due(first + " " + others + ", " + k + " of " + ear, x.rhyme(0, k + 1, ear),
                            due(k, ear, (first + others).contains("child"), (first + others).contains("poet")));
                    }
                }
            }
        }
    }

    private static int due(int common, int ear, boolean child, boolean poet) {
        int degree = common >= ear ? 2 : common == ear - 1 ? 1 : 0;
        return child || poet && degree == 1 ? 2 : degree;
    }

    /** "if one is deaf (and none is a child), instead of LIKE it is how many letters their words' NAMES have in common". */
    private static void byNames() {
        String[] words = {"y", "yf", "yef", "ydef", "ycdef", "ybcdef", "yabcdef"};
        for (String first : KINDS) {
            for (String others : KINDS) {
                if ((first + others).contains("deaf")) {
                    RhymeFerry x = Check.told("ferry ear 2 pairs 1" + sevenNames() + people(first, others, "zabcdef", words)
                        + HOURS);
                    for (int k = 0; k < 7; k++) {
                        for (int ear = 1; ear <= 6; ear++) {
                            CHECK.due(first + " " + others + ", " + k + " of " + ear + " by names", x.rhyme(k + 1, 0, ear),
                                due(k, ear, (first + others).contains("child"), (first + others).contains("poet")));
                        }
                    }
                }
            }
        }
    }

    /** Two of each kind, whose words have neither sounds nor names in common: ear 1, then more. */
    private static void kindsTogether() {
        StringBuilder text = new StringBuilder("ferry ear 2 pairs 1;word ab sounds ab price 1;word cd sounds cd price 1");
        for (int i = 0; i < 8; i++) {
            text.append(";person ").append((char) ('p' + i)).append(' ').append(KINDS[i / 2]).append(" on far has ")
                .append(i % 2 == 0 ? "ab" : "cd");
        }
        RhymeFerry x = Check.told(text + ";hour 1 ear 1");
        for (int p = 0; p < 8; p++) {
            for (int q = 0; q < 8; q++) {
                if (p != q) {
                    boolean child = p / 2 == 2 || q / 2 == 2;
                    boolean poet = p / 2 == 3 || q / 2 == 3;
                    boolean same = p % 2 == q % 2;
                    int common = same ? 2 : 0;
                    CHECK.due(p + " and " + q + " at ear 1", x.rhyme(p, q, 1), due(common, 1, child, poet));
                    CHECK.due(p + " and " + q + " at ear 2", x.rhyme(p, q, 0), due(common, 2, child, poet));
                }
            }
        }
    }

    /** "Two people RHYME at an hour by any word each has". */
    private static void byAnyWordEachHas() {
        RhymeFerry x = Check.told("ferry ear 2 pairs 1;word a sounds ab price 1;word b sounds cd price 1;word c sounds ef price 1"
            + ";word d sounds gf price 1;person m plain on near has a;person n plain on far has b;knows m c;knows n d");
        CHECK.answer(x, "by the second words, half", x.rhyme(0, 1, 0), 1);
        x.buy(1, 2);
        CHECK.answer(x, "by the same word", x.rhyme(0, 1, 0), 2);
        x.undo();
        x.buy(0, 1);
        CHECK.answer(x, "by a word bought", x.rhyme(1, 0, 0), 2);
        x.undo();
        CHECK.answer(x, "no more", x.rhyme(1, 0, 0), 1);
    }

    /** "With whom one RHYMES FULLY, as bits": on either bank, never oneself. */
    private static void withWhom() {
        RhymeFerry x = Check.told(Check.FULL);
        for (int p = 0; p < 8; p++) {
            CHECK.answer(x, "with all others", x.with(p, 0), 255 & ~(1 << p));
        }
        CHECK.answer(x, "over the river too", Check.told(Check.FULL.replace("person m plain on near", "person m plain on far"))
            .with(0, 23), 254);
        RhymeFerry y = Check.told(Check.LEAST);
        CHECK.answer(y, "with nobody", y.with(0, 0), 0);
        RhymeFerry z = Check.told("ferry ear 3 pairs 1;word a sounds ab price 1;person m plain on near has a"
            + ";person n plain on near has a;person o poet on near has a");
        CHECK.answer(z, "by half is not fully", z.with(0, 0), 4);
    }

    /** "The hour at which one RHYMES FULLY with most, the first such." */
    private static void bestHour() {
        String two = "ferry ear 3 pairs 1;word a sounds ab price 1;word b sounds ab price 1;person m plain on near has a"
            + ";person n plain on far has b";
        CHECK.due("nobody at any: the first", Check.told(two).bestHour(0), 0);
        CHECK.due("one person alone: the first", Check.told(Check.LEAST).bestHour(0), 0);
        CHECK.due("the last hour", Check.told(two + ";hour 23 ear 2").bestHour(1), 23);
        CHECK.due("the first of like ones", Check.told(two + ";hour 23 ear 2;hour 7 ear 1").bestHour(0), 7);
        CHECK.due("most, not first", Check.told(two + ";word c sounds bb price 1;person o plain on near has c"
            + ";hour 7 ear 2;hour 9 ear 1").bestHour(0), 9);
        CHECK.due("from hour 0 on, whatever it is NOW", later(two + ";hour 3 ear 2;hour 9 ear 2", 8).bestHour(0), 3);
    }

    private static RhymeFerry later(String text, int hours) {
        RhymeFerry x = Check.told(text);
        x.hours(hours);
        return x;
    }

    /** "all to whom he hangs together by RHYMES, FULLY, at an hour, on whichever banks, himself too". */
    private static void classes() {
        RhymeFerry one = Check.told(Check.LEAST);
        CHECK.answer(one, "himself", one.classOf(0, 0), 1);
        CHECK.answer(one, "one class", one.classes(0), 1);
        RhymeFerry all = Check.told(Check.FULL);
        CHECK.answer(all, "all", all.classOf(7, 23), 255);
        CHECK.answer(all, "one class", all.classes(23), 1);
        // Eight in a row, each by another word with the next: the chain is laid against their numbers too.
        String words = ";word a sounds aa price 0;word b sounds bb price 0;word c sounds cc price 0;word d sounds dd price 0"
            + ";word e sounds ee price 0;word f sounds ff price 0;word g sounds gg price 0;word h sounds hh price 0";
        String chain = ";person m plain on near has a;person n plain on far has c;person o plain on near has e"
            + ";person p plain on far has g;person q plain on near has g;person r plain on far has e;person s plain on near has c"
            + ";person t plain on far has b;knows t a;knows s b;knows n d;knows r d;knows o f;knows q f";
        RhymeFerry row = Check.told("ferry ear 2 pairs 1" + words + chain + ";hour 5 ear 3;hour 6 ear 1");
        for (int p = 0; p < 8; p++) {
            CHECK.answer(row, "the whole row of " + p, row.classOf(p, 0), 255);
            CHECK.answer(row, "by half is nobody's", row.classOf(p, 5), 1 << p);
        }
        CHECK.answer(row, "one", row.classes(0), 1);
        CHECK.answer(row, "eight", row.classes(5), 8);
        CHECK.answer(row, "one at 6", row.classes(6), 1);
    }

    /** "The word by which alone (in place of all others) one would RHYME FULLY with most at an hour, the first such." */
    private static void names() {
        RhymeFerry x = Check.told("ferry ear 2 pairs 1;word a sounds ab price 1;word b sounds cd price 1;word c sounds ef price 1"
            + ";person m plain on near has a;person n plain on far has b;person o plain on near has c;knows m b;knows n c"
            + ";hour 5 ear 3");
        CHECK.answer(x, "by all that he has", x.with(1, 0), 5);
        CHECK.answer(x, "by b alone", x.renamed(1, 1, 0), 1);
        CHECK.answer(x, "by c alone", x.renamed(1, 2, 0), 4);
        CHECK.answer(x, "by a alone", x.renamed(1, 0, 0), 1);
        CHECK.answer(x, "the first of like ones, though he hasn't it", x.bestName(1, 0), 0);
        CHECK.answer(x, "the last word is best", x.bestName(0, 0), 2);
        CHECK.answer(x, "nobody by any: the first", x.bestName(2, 5), 0);
        CHECK.answer(x, "nobody", x.renamed(2, 2, 5), 0);
        RhymeFerry last = Check.told(Check.FULL.replace("word j sounds ab", "word j sounds cd").replace("has a;", "has j;"));
        CHECK.answer(last, "the tenth word", last.bestName(7, 0), 9);
        CHECK.answer(last, "with all others", last.renamed(7, 9, 0), 127);
        RhymeFerry one = Check.told(Check.LEAST);
        CHECK.answer(one, "one word", one.bestName(0, 0), 0);
        CHECK.answer(one, "nobody else", one.renamed(0, 0, 0), 0);
    }

    /** "The first hour at which two RHYME FULLY; -2", "At how many hours they do". */
    private static void meetsAndOften() {
        String two = "ferry ear 3 pairs 1;word a sounds ab price 1;word b sounds ab price 1;person m plain on near has a"
            + ";person n plain on far has b";
        int[][] told = {{}, {23}, {0}, {1, 23}, {5, 6, 7, 8, 9, 10, 11, 12}};
        for (int[] hours : told) {
            StringBuilder text = new StringBuilder(two);
            for (int hour : hours) {
                text.append(";hour ").append(hour).append(" ear 2");
            }
            RhymeFerry x = Check.told(text.toString());
            CHECK.answer(x, "meets", x.meets(0, 1), hours.length == 0 ? -2 : hours[0]);
            CHECK.answer(x, "meets", x.meets(1, 0), hours.length == 0 ? -2 : hours[0]);
            CHECK.answer(x, "often", x.often(0, 1), hours.length);
            CHECK.answer(x, "often", x.often(1, 0), hours.length);
        }
        RhymeFerry all = Check.told(Check.FULL);
        CHECK.answer(all, "at all hours", all.often(0, 7), 24);
        RhymeFerry not = Check.told(Check.FULL + ";hour 0 ear 3;hour 23 ear 3");
        CHECK.answer(not, "by half they don't", not.meets(0, 7), 1);
        CHECK.answer(not, "at all but two", not.often(0, 7), 22);
    }

    /** "The cheapest word one hasn't by which, having it too, he RHYMES FULLY with somebody on his bank with whom he doesn't now". */
    private static void cheapest() {
        String words = "ferry ear 2 pairs 1;word a sounds ab price 9;word b sounds cd price 99;word c sounds cd price 5"
            + ";word d sounds ecd price 5;word e sounds ef price 0;word f sounds cd price 0";
        RhymeFerry x = Check.told(words + ";person m plain on near has a;person n plain on near has b;person o plain on far has e");
        CHECK.answer(x, "for nothing", x.cheapest(0, 0), 5);
        x.buy(1, 0);
        CHECK.answer(x, "he rhymes already with all there", x.cheapest(0, 0), -2);
        CHECK.answer(x, "so does the other", x.cheapest(1, 0), -2);
        x.undo();
        CHECK.answer(x, "alone on his bank", x.cheapest(2, 0), -2);
        CHECK.answer(x, "the first of like prices", Check.told(words.replace("price 0", "price 6")
            + ";person m plain on near has a;person n plain on near has b").cheapest(0, 0), 2);
        CHECK.answer(x, "the dearest, where no other does", Check.told(words.replace("sounds cd price 5", "sounds gh price 5")
            .replace("sounds ecd", "sounds gh").replace("sounds cd price 0", "sounds gh price 0")
            + ";person m plain on near has a;person n plain on near has b").cheapest(0, 0), 1);
        RhymeFerry far = Check.told(words + ";person m plain on far has a;person n plain on far has b;person o plain on near has e");
        CHECK.answer(far, "on the far bank", far.cheapest(0, 0), 5);
        CHECK.answer(far, "a child rhymes with all", Check.told(words + ";person m child on near has a;person n plain on near has b")
            .cheapest(1, 0), -2);
        CHECK.answer(far, "none is enough", Check.told(words + ";person m plain on near has a;person n plain on near has b"
            + ";hour 7 ear 6").cheapest(0, 7), -2);
        CHECK.answer(far, "one person", Check.told(Check.LEAST).cheapest(0, 0), -2);
    }
}
