/** Promises 21 to 25: pairs on a bank, errands, what got that isn't so. */
final class PairsTest {
    private static final Check CHECK = new Check();
    private static final String EIGHT_WORDS = "word a sounds ab price 1;word b sounds cd price 2"
        + ";word c sounds ef price 3;word d sounds gh price 4";

    public static void main(String[] args) {
        pairs();
        first();
        alone();
        kept();
        keptByAnyPairs();
        judge();
        wrongInputs();
        CHECK.end();
    }

    private static void pairs() {
        RhymeFerry x = Check.told(Check.FIVE);
        CHECK.answer(x, "pairs", x.pairs(0, 0), 2);
        CHECK.answer(x, "pairs far", x.pairs(1, 0), 0);
        CHECK.answer(x, "pairs at 9", x.pairs(0, 9), 0);
        int[] partners = {3, 2, 1, 0, -2};
        for (int p = 0; p < 5; p++) {
            CHECK.answer(x, "partner of " + p, x.partner(p, 0, 0), partners[p]);
            CHECK.answer(x, "partner of " + p + " far", x.partner(p, 1, 0), -2);
        }
        CHECK.due("cross", x.cross(0, 3), 2);
        CHECK.answer(x, "pairs near", x.pairs(0, 0), 1);
        CHECK.answer(x, "pairs far", x.pairs(1, 0), 1);
        CHECK.answer(x, "partner far", x.partner(0, 1, 0), 3);
        CHECK.answer(x, "none left for", x.partner(4, 1, 0), -2);
    }

    private static void first() {
        // m - n, m - o, n - o, o - p: the most pairs leave m only n
        RhymeFerry x = Check.told("ferry ear 2 pairs 1;" + EIGHT_WORDS
            + ";person m plain on near has a;person n plain on near has a;person o plain on near has a"
            + ";person p plain on near has b;knows o b");
        CHECK.answer(x, "two", x.pairs(0, 0), 2);
        CHECK.answer(x, "m with n", x.partner(0, 0, 0), 1);
        CHECK.answer(x, "o with p", x.partner(2, 0, 0), 3);
        // a star of m with all others, and n - o: who is in a pair first goes with the least
        RhymeFerry y = Check.told("ferry ear 2 pairs 1;" + EIGHT_WORDS
            + ";person m plain on far has a;person n plain on far has b;person o plain on far has c"
            + ";person p plain on far has d;knows m b;knows m c;knows m d;knows n c");
        CHECK.answer(y, "most before first", y.partner(0, 1, 0), 3);
        CHECK.answer(y, "n with o", y.partner(1, 1, 0), 2);
        // n - p, n - q, o - q alone: m is in none
        RhymeFerry z = Check.told("ferry ear 2 pairs 1;" + EIGHT_WORDS
            + ";person m plain on near has a;person n plain on near has b;person o plain on near has c"
            + ";person p plain on near has b;person q plain on near has c;knows n c");
        CHECK.answer(z, "two", z.pairs(0, 0), 2);
        CHECK.answer(z, "m with nobody", z.partner(0, 0, 0), -2);
        CHECK.answer(z, "n with p", z.partner(1, 0, 0), 3);
        CHECK.answer(z, "o with q", z.partner(2, 0, 0), 4);
        CHECK.answer(z, "p with n", z.partner(3, 0, 0), 1);
        RhymeFerry odd = Check.told("ferry ear 2 pairs 1;" + EIGHT_WORDS
            + ";person m plain on near has a;person n plain on near has a;person o plain on near has a");
        CHECK.answer(odd, "in a pair before in none", odd.partner(0, 0, 0), 1);
        CHECK.answer(odd, "the last is left", odd.partner(2, 0, 0), -2);
    }

    private static void alone() {
        RhymeFerry x = Check.told(Check.FIVE);
        CHECK.answer(x, "alone", x.alone(0, 0), 0);
        CHECK.answer(x, "alone at 9", x.alone(0, 9), 15);
        CHECK.answer(x, "alone far", x.alone(1, 0), 16);
        x.cross(0, 3);
        CHECK.answer(x, "none by a child", x.alone(1, 9), 0);
        x.cross(1, 2);
        CHECK.answer(x, "nobody there", x.alone(0, 0), 0);
    }

    private static void kept() {
        RhymeFerry x = Check.told(Check.FIVE);
        CHECK.answer(x, "kept", x.kept(0), 2);
        CHECK.answer(x, "kept at 9", x.kept(9), 0);
        x.cross(1, 2);
        CHECK.answer(x, "kept of those on the near bank", x.kept(0), 1);
        String six = EIGHT_WORDS + ";person m plain on near has a;person n plain on near has a"
            + ";person o plain on near has b;person p plain on near has b;person q plain on near has c"
            + ";person r plain on near has c";
        CHECK.answer(x, "one a crossing", Check.told("ferry ear 2 pairs 1;" + six
            + ";errand m by 1;errand n by 1;errand o by 1;errand p by 1;errand q by 2;errand r by 3").kept(0), 4);
        CHECK.answer(x, "in the best order", Check.told("ferry ear 2 pairs 1;" + six
            + ";errand m by 3;errand n by 3;errand o by 2;errand p by 2;errand q by 1;errand r by 1").kept(0), 6);
        CHECK.answer(x, "two a crossing", Check.told("ferry ear 2 pairs 2;" + six
            + ";errand m by 1;errand n by 1;errand o by 1;errand p by 1;errand q by 1;errand r by 2").kept(0), 5);
        CHECK.answer(x, "three a crossing", Check.told("ferry ear 2 pairs 3;" + six
            + ";errand m by 1;errand n by 1;errand o by 1;errand p by 1;errand q by 1;errand r by 1").kept(0), 6);
        CHECK.answer(x, "no errands", Check.told("ferry ear 2 pairs 3;" + six).kept(0), 0);
    }

    private static void keptByAnyPairs() {
        // The most pairs are m - o and n - p; m - n at once keep both errands.
        RhymeFerry x = Check.told("ferry ear 2 pairs 1;" + EIGHT_WORDS
            + ";person m plain on near has a;person n plain on near has a;person o plain on near has b"
            + ";person p plain on near has c;knows m b;knows n c;errand m by 1;errand n by 1");
        CHECK.answer(x, "the most pairs", x.pairs(0, 0), 2);
        CHECK.answer(x, "kept by one pair", x.kept(0), 2);
    }

    private static void judge() {
        RhymeFerry x = Check.told(Check.FIVE);
        CHECK.answer(x, "all is so", x.judge(), -2);
        RhymeFerry y = Check.told(Check.FIVE + ";got al bo back;got bo cy wet;got al ed back");
        CHECK.answer(y, "the first that isn't so", y.judge(), 2);
        y.hours(9);
        CHECK.answer(y, "whatever the hour", y.judge(), 2);
        y.buy(1, 1);
        CHECK.answer(y, "by words now", y.judge(), 1);
        CHECK.answer(y, "wet", Check.told("ferry ear 3 pairs 1;" + EIGHT_WORDS
            + ";person m plain on near has a;person n plain on far has a;got m n wet;hour 0 ear 2").judge(), -2);
        CHECK.answer(y, "not wet", Check.told("ferry ear 3 pairs 1;" + EIGHT_WORDS
            + ";person m plain on near has a;person n plain on far has a;got m n over").judge(), 0);
    }

    private static void wrongInputs() {
        RhymeFerry x = Check.told(Check.FIVE);
        for (int no : new int[] {-1, 2, Integer.MIN_VALUE, Integer.MAX_VALUE}) {
            CHECK.refused(x, "pairs", x.pairs(no, 24), 1);
            CHECK.refused(x, "partner", x.partner(0, no, 24), 1);
            CHECK.refused(x, "alone", x.alone(no, 24), 1);
        }
        for (int no : new int[] {-1, 24, Integer.MIN_VALUE, Integer.MAX_VALUE}) {
            CHECK.refused(x, "pairs", x.pairs(0, no), 2);
            CHECK.refused(x, "partner", x.partner(0, 0, no), 2);
            CHECK.refused(x, "alone", x.alone(0, no), 2);
            CHECK.refused(x, "kept", x.kept(no), 2);
        }
        CHECK.refused(x, "partner of no person", x.partner(5, 0, 24), 1);
        CHECK.refused(x, "partner of no person", x.partner(-1, 0, 0), 1);
        RhymeFerry none = new RhymeFerry();
        CHECK.refused(none, "pairs", none.pairs(0, 24), 1);
        CHECK.refused(none, "partner", none.partner(0, 0, 0), 1);
        CHECK.refused(none, "alone", none.alone(0, 0), 1);
        CHECK.refused(none, "kept", none.kept(24), 1);
        CHECK.refused(none, "judge", none.judge(), 1);
    }
}
