/** Promises 26 to 28: coins, words to keep, refrains. */
final class BoughtTest {
    private static final Check CHECK = new Check();

    public static void main(String[] args) {
        coins();
        keep();
        refrain();
        wrongInputs();
        CHECK.end();
    }

    private static void coins() {
        RhymeFerry x = Check.told(Check.FIVE);
        CHECK.answer(x, "all are paired already", x.coins(0, 0), 0);
        CHECK.answer(x, "by smith and moon", x.coins(0, 9), 17);
        CHECK.answer(x, "one alone", x.coins(1, 0), -2);
        x.buy(3, 0);
        CHECK.answer(x, "by words now", x.coins(0, 9), 7);
        x.cross(0, 3);
        CHECK.answer(x, "three", x.coins(1, 9), -2);
        RhymeFerry y = Check.told("ferry ear 3 pairs 1;word a sounds ab price 50;word b sounds cd price 60"
            + ";word c sounds fabc price 2;word d sounds gabc price 1;person m plain on far has a"
            + ";person n plain on far has b;hour 5 ear 2;hour 6 ear 5");
        CHECK.answer(y, "a word for each, the cheaper one twice", y.coins(1, 0), 2);
        CHECK.answer(y, "still cheaper than another's", y.coins(1, 5), 2);
        CHECK.answer(y, "no word is long enough", y.coins(1, 6), -2);
        CHECK.answer(y, "nobody there", y.coins(0, 6), 0);
        RhymeFerry z = Check.told("ferry ear 3 pairs 1;word a sounds eabc price 9;word b sounds fabc price 5"
            + ";word c sounds hh price 0;person m plain on near has a;person n plain on near has c");
        CHECK.answer(z, "one buys what rhymes with the other's", z.coins(0, 0), 5);
    }

    private static void keep() {
        RhymeFerry x = Check.told(Check.FIVE);
        CHECK.answer(x, "none need be kept", x.keep(0, 0), 0);
        CHECK.answer(x, "one, bought by three", x.keep(0, 9), 1);
        CHECK.answer(x, "one alone", x.keep(1, 0), -2);
        x.cross(0, 3);
        CHECK.answer(x, "kith, the least that is enough", x.keep(0, 9), 1);
        RhymeFerry y = Check.told("ferry ear 4 pairs 1;word a sounds ab price 1;word b sounds cabcd price 9"
            + ";word c sounds babcd price 0;word d sounds ha price 0;person m plain on near has a"
            + ";person n plain on near has d;hour 7 ear 6;hour 3 ear 5");
        CHECK.answer(y, "the least bits, not the least coins", y.keep(0, 0), 2);
        CHECK.answer(y, "none are enough", y.keep(0, 7), -2);
        y.buy(0, 2);
        CHECK.answer(y, "by words now", y.keep(0, 3), 2);
        CHECK.answer(y, "nobody there", y.keep(1, 7), 0);
        RhymeFerry two = Check.told("ferry ear 4 pairs 1;word xabcd sounds ab price 1;word yy sounds cabcd price 9"
            + ";word z sounds ha price 0;person m plain on near has z;person n plain on near has z"
            + ";person o deaf on near has z;person p plain on near has z");
        CHECK.answer(two, "two, by ear and by eye", two.keep(0, 0), 3);
    }

    private static void refrain() {
        RhymeFerry x = Check.told(Check.FIVE);
        CHECK.answer(x, "smith and hat", x.refrain(0, 0), 5);
        CHECK.answer(x, "a child needs one all the same", x.refrain(1, 0), 1);
        CHECK.answer(x, "none at 9", x.refrain(0, 9), -2);
        x.cross(0, 3);
        x.cross(1, 2);
        CHECK.answer(x, "nobody there", x.refrain(0, 9), 0);
        RhymeFerry y = Check.told("ferry ear 3 pairs 1;word a sounds aab price 1;word b sounds ccd price 1"
            + ";word c sounds cd price 1;word d sounds bcd price 0;person m plain on near has a"
            + ";person n poet on near has b;person o deaf on far has a;hour 1 ear 1;hour 2 ear 2");
        CHECK.answer(y, "a poet's half, the least bits", y.refrain(0, 0), 3);
        CHECK.answer(y, "a poet alone at 1", y.refrain(0, 1), 1);
        CHECK.answer(y, "one deaf", y.refrain(1, 1), 1);
        CHECK.answer(y, "one deaf, too short a name", y.refrain(1, 2), -2);
        y.buy(0, 3);
        CHECK.answer(y, "by words now", y.refrain(0, 2), 2);
    }

    private static void wrongInputs() {
        RhymeFerry x = Check.told(Check.FIVE);
        RhymeFerry none = new RhymeFerry();
        for (int no : new int[] {-1, 2, Integer.MIN_VALUE, Integer.MAX_VALUE}) {
            CHECK.refused(x, "coins", x.coins(no, 24), 1);
            CHECK.refused(x, "keep", x.keep(no, 24), 1);
            CHECK.refused(x, "refrain", x.refrain(no, 24), 1);
        }
        for (int no : new int[] {-1, 24, Integer.MIN_VALUE, Integer.MAX_VALUE}) {
            CHECK.refused(x, "coins", x.coins(0, no), 2);
            CHECK.refused(x, "keep", x.keep(0, no), 2);
            CHECK.refused(x, "refrain", x.refrain(0, no), 2);
        }
        CHECK.refused(none, "coins", none.coins(0, 24), 1);
        CHECK.refused(none, "keep", none.keep(0, 24), 1);
        CHECK.refused(none, "refrain", none.refrain(0, 24), 1);
    }
}
