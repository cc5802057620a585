/** Promises 6 to 20: words, people, and who rhymes with whom. */
final class WordsPeopleTest {
    private static final Check CHECK = new Check();
    private static final int[] WRONG = {-1, 5, 99, Integer.MIN_VALUE, Integer.MAX_VALUE};
    private static final int[] NO_HOURS = {-1, 24, Integer.MIN_VALUE, Integer.MAX_VALUE};

    public static void main(String[] args) {
        words();
        alikes();
        people();
        ears();
        rhymes();
        kinds();
        withWhom();
        hoursOfTwo();
        classes();
        names();
        cheapest();
        wrongInputs();
        CHECK.end();
    }

    private static void words() {
        RhymeFerry x = Check.told(Check.FIVE);
        CHECK.answer(x, "price", x.word(4, 0), 7);
        CHECK.answer(x, "letters", x.word(0, 1), 4);
        CHECK.answer(x, "letters", x.word(3, 1), 3);
        CHECK.answer(x, "who has it", x.word(4, 2), 18);
        x.buy(0, 4);
        CHECK.answer(x, "who has it now", x.word(4, 2), 19);
        CHECK.answer(x, "like", x.like(0, 1), 3);
        CHECK.answer(x, "like", x.like(1, 0), 3);
        CHECK.answer(x, "like itself", x.like(2, 2), 3);
        CHECK.answer(x, "not like", x.like(4, 2), 0);
        CHECK.answer(x, "eye", x.eye(0, 1), 3);
        CHECK.answer(x, "eye of itself", x.eye(0, 0), 5);
        CHECK.answer(x, "eye till one has no more", Check.told("ferry ear 2 pairs 1;word kith sounds ab price 0"
            + ";word ith sounds cdab price 0;person p plain on near has kith").eye(0, 1), 3);
        CHECK.answer(x, "like till one has no more", Check.told("ferry ear 2 pairs 1;word kith sounds ab price 0"
            + ";word ith sounds cdab price 0;person p plain on near has kith").like(1, 0), 2);
    }

    private static void alikes() {
        RhymeFerry x = Check.told("ferry ear 2 pairs 1;word a sounds gah price 0;word b sounds gbh price 0"
            + ";word c sounds gch price 0;word d sounds hbg price 0;alike a b;alike c b"
            + ";alike a g;person p plain on near has a;word e sounds ggh price 0");
        CHECK.answer(x, "a and b", x.like(0, 1), 3);
        CHECK.answer(x, "c and b", x.like(2, 1), 3);
        CHECK.answer(x, "b and a", x.like(1, 0), 3);
        CHECK.answer(x, "b and c", x.like(1, 2), 3);
        CHECK.answer(x, "a and c are not alike by b", x.like(0, 2), 1);
        CHECK.answer(x, "g and h", x.like(1, 3), 0);
        CHECK.answer(x, "a and g, told behind a and b", x.like(0, 4), 3);
        CHECK.answer(x, "g and a", x.like(4, 0), 3);
        CHECK.answer(x, "names are not alike by letters that are", x.eye(0, 1), 0);
    }

    private static void people() {
        RhymeFerry x = Check.told(Check.FIVE);
        int[] kinds = {0, 0, 3, 1, 2};
        int[] banks = {0, 0, 0, 0, 1};
        int[] words = {1, 20, 8, 2, 16};
        int[] errands = {1, 0, 2, 0, 0};
        for (int p = 0; p < 5; p++) {
            CHECK.answer(x, "kind of " + p, x.person(p, 0), kinds[p]);
            CHECK.answer(x, "bank of " + p, x.person(p, 1), banks[p]);
            CHECK.answer(x, "words of " + p, x.person(p, 2), words[p]);
            CHECK.answer(x, "wet of " + p, x.person(p, 3), 0);
            CHECK.answer(x, "errand of " + p, x.person(p, 4), errands[p]);
        }
        x.hours(5);
        CHECK.due("cross by half", x.cross(0, 1), 1);
        x.buy(0, 4);
        CHECK.answer(x, "bank now", x.person(0, 1), 1);
        CHECK.answer(x, "words now", x.person(0, 2), 17);
        CHECK.answer(x, "wet now", x.person(1, 3), 1);
    }

    private static void ears() {
        RhymeFerry x = Check.told(Check.FIVE);
        for (int hour = 0; hour < 24; hour++) {
            CHECK.answer(x, "ear at " + hour, x.ear(hour), hour == 5 ? 2 : hour == 9 ? 5 : 3);
        }
    }

    private static void rhymes() {
        RhymeFerry x = Check.told(Check.FIVE);
        CHECK.answer(x, "deaf by names", x.rhyme(0, 3, 0), 2);
        CHECK.answer(x, "poet", x.rhyme(1, 2, 0), 2);
        CHECK.answer(x, "none", x.rhyme(0, 1, 0), 0);
        CHECK.answer(x, "half", x.rhyme(0, 1, 5), 1);
        CHECK.answer(x, "half the other way", x.rhyme(1, 0, 5), 1);
        CHECK.answer(x, "child", x.rhyme(4, 3, 9), 2);
        x.buy(1, 1);
        CHECK.answer(x, "by a word bought", x.rhyme(0, 1, 0), 2);
    }

    private static void kinds() {
        String text = "ferry ear 4 pairs 1;word abcd sounds ab price 0;word abce sounds bb price 0"
            + ";word xbcd sounds abcb price 0;person p plain on near has abcd;person d deaf on near has xbcd"
            + ";person o poet on near has abcd;person c child on near has abce;person e deaf on near has abce"
            + ";hour 1 ear 1;hour 2 ear 3;hour 3 ear 2;hour 5 ear 5";
        RhymeFerry x = Check.told(text);
        CHECK.answer(x, "deaf: three letters of four", x.rhyme(0, 1, 0), 1);
        CHECK.answer(x, "deaf: three letters of three", x.rhyme(0, 1, 2), 2);
        CHECK.answer(x, "deaf: three letters of five", x.rhyme(0, 1, 5), 0);
        CHECK.answer(x, "deaf and poet: three letters of four", x.rhyme(1, 2, 0), 2);
        CHECK.answer(x, "deaf and poet: three letters of five", x.rhyme(1, 2, 5), 0);
        CHECK.answer(x, "deaf and child", x.rhyme(1, 3, 5), 2);
        CHECK.answer(x, "poet: two of four, not even by half", x.rhyme(0, 2, 0), 0);
        CHECK.answer(x, "poet: two of three", x.rhyme(0, 2, 2), 2);
        CHECK.answer(x, "two deaf: none of one", x.rhyme(1, 4, 1), 1);
        CHECK.answer(x, "two deaf: none of two", x.rhyme(1, 4, 3), 0);
        CHECK.answer(x, "poet: none of one", x.rhyme(2, 4, 1), 2);
    }

    private static void withWhom() {
        RhymeFerry x = Check.told(Check.FIVE);
        CHECK.answer(x, "with", x.with(0, 0), 24);
        CHECK.answer(x, "with", x.with(1, 0), 20);
        CHECK.answer(x, "with", x.with(4, 9), 15);
        CHECK.answer(x, "with", x.with(0, 5), 28);
        CHECK.answer(x, "best hour", x.bestHour(0), 5);
        CHECK.answer(x, "best hour, all alike", x.bestHour(4), 0);
        x.hours(5);
        CHECK.answer(x, "best hour whatever it is now", x.bestHour(2), 5);
        CHECK.answer(x, "best hour of none", Check.told("ferry ear 3 pairs 1;word w sounds ab price 1"
            + ";person p plain on near has w").bestHour(0), 0);
    }

    private static void hoursOfTwo() {
        RhymeFerry x = Check.told(Check.FIVE);
        CHECK.answer(x, "meets", x.meets(0, 3), 0);
        CHECK.answer(x, "often", x.often(0, 3), 23);
        CHECK.answer(x, "meets", x.meets(2, 0), 5);
        CHECK.answer(x, "often", x.often(2, 0), 1);
        CHECK.answer(x, "never meets", x.meets(0, 1), -2);
        CHECK.answer(x, "never", x.often(0, 1), 0);
        CHECK.answer(x, "always", x.often(4, 3), 24);
        x.hours(7);
        CHECK.answer(x, "meets, from hour 0 on", x.meets(0, 3), 0);
    }

    private static void classes() {
        RhymeFerry x = Check.told(Check.FIVE);
        CHECK.answer(x, "all by a child", x.classOf(0, 0), 31);
        CHECK.answer(x, "classes", x.classes(9), 1);
        RhymeFerry y = Check.told("ferry ear 3 pairs 1;word a sounds abc price 1;word b sounds def price 1"
            + ";word c sounds gha price 1;person m plain on near has a;person n plain on far has b"
            + ";person o plain on near has b;person p plain on far has c;person q plain on near has a"
            + ";knows o c;hour 3 ear 6;hour 4 ear 1");
        CHECK.answer(y, "a chain over banks", y.classOf(1, 0), 14);
        CHECK.answer(y, "the chain's other end", y.classOf(3, 0), 14);
        CHECK.answer(y, "two", y.classOf(0, 0), 17);
        CHECK.answer(y, "himself alone", y.classOf(2, 3), 4);
        CHECK.answer(y, "two classes", y.classes(0), 2);
        CHECK.answer(y, "five classes", y.classes(3), 5);
        CHECK.answer(y, "by half is no class", y.classes(4), 2);
        y.buy(3, 0);
        CHECK.answer(y, "by words now", y.classes(0), 1);
    }

    private static void names() {
        RhymeFerry x = Check.told(Check.FIVE);
        CHECK.answer(x, "renamed", x.renamed(1, 0, 0), 25);
        CHECK.answer(x, "renamed loses others", x.renamed(1, 4, 0), 16);
        CHECK.answer(x, "best name", x.bestName(1, 0), 0);
        CHECK.answer(x, "best name of a deaf one", x.bestName(3, 0), 2);
        CHECK.answer(x, "best name of a poet", x.bestName(2, 0), 0);
        CHECK.answer(x, "renamed", x.renamed(2, 2, 0), 18);
        CHECK.answer(x, "a child's", x.bestName(4, 0), 0);
        CHECK.answer(x, "best name at 5", x.bestName(0, 5), 0);
        CHECK.due("nothing is changed", x.person(1, 2), 20);
        RhymeFerry y = Check.told("ferry ear 2 pairs 1;word a sounds ab price 1;word b sounds cd price 1"
            + ";person m plain on near has a;person n plain on far has b;person o plain on near has b");
        CHECK.answer(y, "the second is best", y.bestName(0, 0), 1);
        CHECK.answer(y, "the first of like ones", y.bestName(1, 0), 0);
    }

    private static void cheapest() {
        RhymeFerry x = Check.told(Check.FIVE);
        CHECK.answer(x, "cheapest", x.cheapest(1, 0), 1);
        CHECK.answer(x, "nobody new on the bank", x.cheapest(4, 0), -2);
        RhymeFerry y = Check.told("ferry ear 2 pairs 1;word a sounds ab price 9;word b sounds cd price 4"
            + ";word c sounds ef price 4;word d sounds gh price 3;person m plain on near has a"
            + ";person n plain on near has b;person o plain on near has c;person p plain on far has d");
        CHECK.answer(y, "the first of like prices", y.cheapest(0, 0), 1);
        CHECK.answer(y, "one that he hasn't", y.cheapest(1, 0), 2);
        CHECK.answer(x, "the first word of all", Check.told("ferry ear 2 pairs 1;word a sounds ab price 9"
            + ";word b sounds cd price 4;person m plain on near has a;person n plain on near has b").cheapest(1, 0), 0);
        y.buy(0, 1);
        CHECK.answer(y, "not by one with whom he rhymes", y.cheapest(0, 0), 2);
        y.buy(0, 2);
        CHECK.answer(y, "none more", y.cheapest(0, 0), -2);
        CHECK.answer(y, "alone on a bank", y.cheapest(3, 0), -2);
    }

    private static void wrongInputs() {
        RhymeFerry x = Check.told(Check.FIVE);
        for (int no : WRONG) {
            CHECK.refused(x, "word " + no, x.word(no, 0), 1);
            CHECK.refused(x, "word 0, " + no, x.word(0, no), 1);
            CHECK.refused(x, "like", x.like(no, 0), 1);
            CHECK.refused(x, "like", x.like(0, no), 1);
            CHECK.refused(x, "eye", x.eye(no, 0), 1);
            CHECK.refused(x, "eye", x.eye(0, no), 1);
            CHECK.refused(x, "person", x.person(no, 0), 1);
            CHECK.refused(x, "person 0, " + no, x.person(0, no), 1);
            CHECK.refused(x, "rhyme", x.rhyme(no, 0, 24), 1);
            CHECK.refused(x, "rhyme", x.rhyme(0, no, 24), 1);
            CHECK.refused(x, "with", x.with(no, 24), 1);
            CHECK.refused(x, "bestHour", x.bestHour(no), 1);
            CHECK.refused(x, "classOf", x.classOf(no, 24), 1);
            CHECK.refused(x, "bestName", x.bestName(no, 24), 1);
            CHECK.refused(x, "renamed", x.renamed(no, 0, 24), 1);
            CHECK.refused(x, "renamed", x.renamed(0, no, 24), 1);
            CHECK.refused(x, "meets", x.meets(no, 0), 1);
            CHECK.refused(x, "meets", x.meets(0, no), 1);
            CHECK.refused(x, "often", x.often(no, 0), 1);
            CHECK.refused(x, "often", x.often(0, no), 1);
            CHECK.refused(x, "cheapest", x.cheapest(no, 24), 1);
        }
        CHECK.refused(x, "word 0, 3", x.word(0, 3), 1);
        CHECK.refused(x, "rhyme with himself", x.rhyme(1, 1, 0), 1);
        CHECK.refused(x, "meets himself", x.meets(1, 1), 1);
        CHECK.refused(x, "often himself", x.often(1, 1), 1);
        for (int no : NO_HOURS) {
            CHECK.refused(x, "ear", x.ear(no), 2);
            CHECK.refused(x, "rhyme", x.rhyme(0, 1, no), 2);
            CHECK.refused(x, "with", x.with(0, no), 2);
            CHECK.refused(x, "classOf", x.classOf(0, no), 2);
            CHECK.refused(x, "classes", x.classes(no), 2);
            CHECK.refused(x, "bestName", x.bestName(0, no), 2);
            CHECK.refused(x, "renamed", x.renamed(0, 0, no), 2);
            CHECK.refused(x, "cheapest", x.cheapest(0, no), 2);
        }
        RhymeFerry none = new RhymeFerry();
        CHECK.refused(none, "classes of no ferry", none.classes(24), 1);
        CHECK.refused(none, "bestHour of no ferry", none.bestHour(0), 1);
    }
}
