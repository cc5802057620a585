/** Promises 33 to 35: two sellers and their rests. */
final class SellersTest {
    private static final Check CHECK = new Check();

    public static void main(String[] args) {
        sells();
        rests();
        wrongInputs();
        CHECK.end();
    }

    private static void sells() {
        RhymeFerry x = Check.told(Check.FIVE);
        int[][] prices = {{3, 4, 3, 4}, {4, 4, 4, 4}, {5, 4, 0, 8}, {0, 9, 0, 9}, {9, 0, 0, 0}};
        for (int[] both : prices) {
            CHECK.answer(x, "the one", x.sells(1, both[0], 0, both[1], 9, false), both[2]);
            CHECK.answer(x, "the other", x.sells(1, both[0], 0, both[1], 9, true), both[3]);
        }
        CHECK.answer(x, "the first seller's of like ones", x.sells(0, 4, 1, 4, 9, false), 8);
        CHECK.answer(x, "nobody is alone", x.sells(1, 5, 0, 4, 0, true), 0);
        x.buy(2, 0);
        CHECK.answer(x, "by words now: bo and di, al and cy rhyme", x.sells(1, 5, 0, 4, 9, true), 8);
        x.cross(1, 2);
        CHECK.answer(x, "the near bank alone", x.sells(1, 5, 0, 4, 9, true), 4);
    }

    private static void rests() {
        RhymeFerry x = Check.told(Check.FIVE);
        CHECK.answer(x, "none", x.rests(1, 0, 9), 0);
        CHECK.answer(x, "none", x.rest(1, 0, 9), -2);
        CHECK.answer(x, "nobody buys", x.rests(1, 0, 0), 100);
        CHECK.answer(x, "nobody buys", x.rest(1, 0, 0), 0);
        // Only n buys, and both words serve: both go down till nothing is had.
        RhymeFerry y = Check.told("ferry ear 2 pairs 1;word a sounds ab price 1;word b sounds cab price 1"
            + ";word c sounds hh price 1;person m plain on near has a;person n plain on near has c"
            + ";person o plain on near has a");
        CHECK.answer(y, "both serve", y.sells(0, 7, 1, 7, 0, false), 7);
        CHECK.answer(y, "0 0, 1 1 and 0 1 are rests", y.rests(0, 1, 0), rests(0, 0, 1));
        CHECK.answer(y, "the first", y.rest(0, 1, 0), firstRest(0, 0, 1));
        RhymeFerry z = Check.told("ferry ear 2 pairs 1;word a sounds ab price 1;word b sounds cd price 1"
            + ";word c sounds hh price 1;person m plain on near has a;person n plain on near has c");
        CHECK.answer(z, "rest as the first call", Check.told("ferry ear 2 pairs 1;word a sounds ab price 1"
            + ";word b sounds cd price 1;person m plain on near has a;person n plain on near has b").rest(0, 1, 0), 99);
        CHECK.answer(z, "m by c; n by a: each is sold one", z.rests(0, 2, 0), rests(1, 1, 0));
        CHECK.answer(z, "both as dear as can be", z.rest(0, 2, 0), 99);
    }

    /** By who buys of the one alone, of the other alone, of either. */
    private static int rests(int one, int other, int either) {
        int count = 0;
        for (int a = 0; a <= 9; a++) {
            for (int b = 0; b <= 9; b++) {
                count += isRest(a, b, one, other, either) ? 1 : 0;
            }
        }
        return count;
    }

    private static int firstRest(int one, int other, int either) {
        for (int both = 0; both <= 99; both++) {
            if (isRest(both / 10, both % 10, one, other, either)) {
                return both;
            }
        }
        return -2;
    }

    private static boolean isRest(int a, int b, int one, int other, int either) {
        int has = a * (one + (a <= b ? either : 0));
        int otherHas = b * (other + (b < a ? either : 0));
        boolean rest = true;
        for (int c = 0; c <= 9; c++) {
            rest &= c * (one + (c <= b ? either : 0)) <= has;
            rest &= c * (other + (c < a ? either : 0)) <= otherHas;
        }
        return rest;
    }

    private static void wrongInputs() {
        RhymeFerry x = Check.told(Check.FIVE);
        for (int no : new int[] {-1, 5, 1, Integer.MIN_VALUE, Integer.MAX_VALUE}) {
            CHECK.refused(x, "sells", x.sells(no, 10, 1, 0, 0, false), 1);
            CHECK.refused(x, "sells", x.sells(1, 10, no, 0, 0, true), 1);
            CHECK.refused(x, "rests", x.rests(no, 1, 24), 1);
            CHECK.refused(x, "rests", x.rests(1, no, 24), 1);
            CHECK.refused(x, "rest", x.rest(no, 1, 24), 1);
            CHECK.refused(x, "rest", x.rest(1, no, 24), 1);
        }
        for (int no : new int[] {-1, 10, Integer.MIN_VALUE, Integer.MAX_VALUE}) {
            CHECK.refused(x, "sells", x.sells(0, no, 1, 0, 0, false), 2);
            CHECK.refused(x, "sells", x.sells(0, 0, 1, no, 0, false), 2);
        }
        for (int no : new int[] {-1, 24, Integer.MIN_VALUE, Integer.MAX_VALUE}) {
            CHECK.refused(x, "sells", x.sells(0, 0, 1, 0, no, false), 2);
            CHECK.refused(x, "rests", x.rests(0, 1, no), 2);
            CHECK.refused(x, "rest", x.rest(0, 1, no), 2);
        }
        RhymeFerry none = new RhymeFerry();
        CHECK.refused(none, "rests", none.rests(0, 1, 24), 1);
    }
}
