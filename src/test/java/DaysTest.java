/** Promises 36 and 37: days by draws. */
final class DaysTest {
    private static final Check CHECK = new Check();
    private static final String SIX = "word a sounds ab price 1;word b sounds cd price 1;word c sounds ef price 1"
        + ";person m plain on near has a;person n plain on near has a;person o plain on near has b"
        + ";person p plain on near has b;person q plain on near has c;person r plain on near has c";

    public static void main(String[] args) {
        seeds();
        hours();
        pairs();
        bounds();
        leftOver();
        nothingChanges();
        wrongInputs();
        CHECK.end();
    }

    /** What the first draw by a seed adds to the ear. */
    private static int drawn(int seed) {
        return (75 * seed + 74) % 65537 % 3 - 1;
    }

    private static void seeds() {
        // 149 mod 3 is 2: ear 3, nobody; the draw behind it is 11,249, mod 3 again 2.
        CHECK.due("seed 1", drawn(1), 1);
        RhymeFerry x = Check.told("ferry ear 2 pairs 1;" + SIX);
        for (int seed = 0; seed < 65537; seed += 1009) {
            CHECK.answer(x, "an hour by seed " + seed, x.day(seed, 1), drawn(seed) <= 0 ? 2 : 0);
            int second = (75 * seed + 74) % 65537;
            int two = (drawn(seed) <= 0 ? 2 : 0) + (drawn(second) <= 0 ? 2 : 0);
            CHECK.answer(x, "two hours by seed " + seed, x.day(seed, 2), two);
        }
        CHECK.answer(x, "no hours", x.day(65536, 0), 0);
        CHECK.answer(x, "the last seed", x.day(65536, 24), 6);
    }

    private static void hours() {
        // At hours 0 and 1 nobody can rhyme, by whatever draw; at hour 2 all can.
        RhymeFerry x = Check.told("ferry ear 5 pairs 3;" + SIX + ";hour 2 ear 1");
        CHECK.answer(x, "two hours", x.day(7, 2), 0);
        CHECK.answer(x, "three hours", x.day(7, 3), 6);
        CHECK.answer(x, "crossed in the third", x.crossedIn(0, 7, 3), 3);
        CHECK.answer(x, "not in two", x.crossedIn(0, 7, 2), -2);
        x.hours(1);
        CHECK.answer(x, "from now on", x.crossedIn(5, 7, 24), 2);
        x.hours(1);
        CHECK.answer(x, "this hour is the first", x.crossedIn(5, 7, 1), 1);
        x.hours(1);
        CHECK.answer(x, "behind 23 comes 0", x.crossedIn(5, 7, 24), 24);
        CHECK.answer(x, "in 23 hours not yet", x.day(7, 23), 0);
    }

    private static void pairs() {
        // By ear 1 less 1, that is 1 at least, everybody rhymes as one letter does.
        RhymeFerry one = Check.told("ferry ear 2 pairs 1;" + SIX + ";hour 0 ear 1;hour 1 ear 1;hour 2 ear 1;hour 3 ear 1");
        int[] crossings = {1, 1, 2, 2, 3, 3};
        for (int p = 0; p < 6; p++) {
            CHECK.answer(one, "one pair an hour: " + p, one.crossedIn(p, 11, 4), crossings[p]);
        }
        RhymeFerry two = Check.told("ferry ear 2 pairs 2;" + SIX + ";hour 0 ear 1;hour 1 ear 1;hour 2 ear 1;hour 3 ear 1");
        crossings = new int[] {1, 1, 1, 1, 2, 2};
        for (int p = 0; p < 6; p++) {
            CHECK.answer(two, "two pairs an hour: " + p, two.crossedIn(p, 11, 4), crossings[p]);
        }
        CHECK.answer(two, "one hour", two.day(11, 1), 4);
        RhymeFerry far = Check.told("ferry ear 2 pairs 3;word a sounds ab price 1;person m child on far has a"
            + ";person n child on far has a;person o child on near has a");
        CHECK.answer(far, "nobody comes back", far.day(3, 24), 0);
        CHECK.answer(far, "who was over", far.crossedIn(0, 3, 24), -2);
    }

    private static void bounds() {
        String two = ";word a sounds ab price 1;word b sounds cb price 1;word c sounds hh price 1"
            + ";person m plain on near has a;person n plain on near has b;person o plain on near has c";
        RhymeFerry x = Check.told("ferry ear 2 pairs 1" + two + ";hour 1 ear 1");
        String deaf = ";word aaaaaaa sounds ab price 1;word aaaaaa sounds ab price 1;person m deaf on near has ";
        RhymeFerry seven = Check.told("ferry ear 2 pairs 1" + deaf + "aaaaaaa;person n deaf on near has aaaaaaa;hour 0 ear 6");
        RhymeFerry six = Check.told("ferry ear 2 pairs 1" + deaf + "aaaaaaa;person n deaf on near has aaaaaa;hour 0 ear 6");
        for (int seed = 0; seed < 65537; seed += 661) {
            CHECK.answer(x, "one letter, ear 1 to 3", x.day(seed, 1), drawn(seed) < 0 ? 2 : 0);
            CHECK.answer(seven, "seven letters, ear 5 to 7", seven.day(seed, 1), 2);
            CHECK.answer(six, "six letters, ear 5 to 7", six.day(seed, 1), drawn(seed) <= 0 ? 2 : 0);
        }
        RhymeFerry later = Check.told("ferry ear 2 pairs 1" + two + ";hour 1 ear 1");
        later.hours(1);
        for (int seed = 0; seed < 65537; seed += 661) {
            CHECK.answer(later, "ear 1 or 2, never 0", later.day(seed, 1), drawn(seed) <= 0 ? 2 : 0);
            CHECK.answer(later, "o rhymes with nobody", later.crossedIn(2, seed, 1), -2);
        }
        RhymeFerry none = Check.told("ferry ear 2 pairs 1;word a sounds ab price 1;word c sounds hh price 1"
            + ";person m plain on near has a;person n plain on near has c;hour 0 ear 1");
        for (int seed = 0; seed < 65537; seed += 661) {
            CHECK.answer(none, "no letter, ear 1 at least", none.day(seed, 1), 0);
        }
    }

    private static void leftOver() {
        // The most pairs are m - o and n - p, though m rhymes with n too; one pair is left an hour.
        RhymeFerry x = Check.told("ferry ear 2 pairs 1;word a sounds abcd price 1;word b sounds cdef price 1"
            + ";word c sounds efgh price 1;person m plain on near has a;person n plain on near has a"
            + ";person o plain on near has b;person p plain on near has c;knows m b;knows n c");
        CHECK.answer(x, "m in the first hour", x.crossedIn(0, 5, 2), 1);
        CHECK.answer(x, "o with m", x.crossedIn(2, 5, 2), 1);
        CHECK.answer(x, "n in the second", x.crossedIn(1, 5, 2), 2);
        CHECK.answer(x, "all", x.day(5, 2), 4);
    }

    private static void nothingChanges() {
        RhymeFerry x = Check.told("ferry ear 2 pairs 3;" + SIX + ";hour 0 ear 1");
        CHECK.answer(x, "all cross", x.day(1, 1), 6);
        CHECK.due("nobody has", x.person(0, 1), 0);
        CHECK.due("no hour has gone by", x.size(8), 0);
        CHECK.due("nothing to undo", x.size(10), 0);
        CHECK.answer(x, "again", x.day(1, 1), 6);
        x.cross(0, 1);
        CHECK.answer(x, "as they are now", x.day(1, 1), 4);
        CHECK.answer(x, "not who is over", x.crossedIn(0, 1, 1), -2);
    }

    private static void wrongInputs() {
        RhymeFerry x = Check.told(Check.FIVE);
        for (int no : new int[] {-1, 65537, Integer.MIN_VALUE, Integer.MAX_VALUE}) {
            CHECK.refused(x, "day", x.day(no, 1), 2);
            CHECK.refused(x, "crossedIn", x.crossedIn(0, no, 1), 2);
        }
        for (int no : new int[] {-1, 25, Integer.MIN_VALUE, Integer.MAX_VALUE}) {
            CHECK.refused(x, "day", x.day(0, no), 2);
            CHECK.refused(x, "crossedIn", x.crossedIn(0, 0, no), 2);
            CHECK.refused(x, "crossedIn", x.crossedIn(5, 0, no), 1);
        }
        CHECK.refused(x, "crossedIn", x.crossedIn(-1, -1, 0), 1);
        RhymeFerry none = new RhymeFerry();
        CHECK.refused(none, "day", none.day(-1, 0), 1);
    }
}
