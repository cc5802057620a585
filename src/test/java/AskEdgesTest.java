/** Promises 29 to 37 at their edges: ears that are left, prices, seeds, days. */
final class AskEdgesTest {
    private static final Check CHECK = new Check();
    /** m and n have two letters in common, m and o four, n and o two, z none with anybody. */
    private static final String FOUR = "ferry ear 2 pairs 1;word a sounds abcd price 1;word b sounds bbcd price 1"
        + ";word c sounds hhcd price 1;word d sounds hh price 1;person m plain on near has a;person n plain on far has c"
        + ";person o plain on near has a;person z plain on far has d";
    /** Three pairs who rhyme by two letters, all on the near bank. */
    private static final String SIX = ";word a sounds ab price 1;word b sounds cd price 1;word c sounds ef price 1"
        + ";person m plain on near has a;person n plain on near has a;person o plain on near has b"
        + ";person p plain on near has b;person q plain on near has c;person r plain on near has c";

    public static void main(String[] args) {
        earsHeard();
        everyEar();
        ask();
        oneAloneOrNoEar();
        prices();
        whoBuys();
        rests();
        seeds();
        seedWraps();
        hoursOfADay();
        earOfADay();
        pairsOfADay();
        CHECK.end();
    }

    // ---- HEARD and ASK

    private static void heard(String gots, int count, int least, int most) {
        RhymeFerry x = Check.told(FOUR + gots);
        CHECK.answer(x, gots + ": how many", x.heard(), count);
        CHECK.answer(x, gots + ": least", x.heardEar(false), least);
        CHECK.answer(x, gots + ": greatest", x.heardEar(true), most);
    }

    private static void earsHeard() {
        heard("", 6, 1, 6);
        heard(";got m n over", 2, 1, 2);
        heard(";got m n wet", 1, 3, 3);
        heard(";got m n back", 3, 4, 6);
        heard(";got m o over", 4, 1, 4);
        heard(";got m o wet", 1, 5, 5);
        heard(";got m o back", 1, 6, 6);
        heard(";got m z over", 0, -2, -2);
        heard(";got m z wet", 1, 1, 1);
        heard(";got m z back", 5, 2, 6);
        heard(";got m n back;got m o over", 1, 4, 4);
        heard(";got m n over;got m n wet", 0, -2, -2);
        heard(";got m n over;got n m over;got m o over;got o m over;got z m back;got z n back", 1, 2, 2);
        heard(";got m n over;got n m over;got m o over;got o m over;got z m back;got z n over", 0, -2, -2);
    }

    /** The ears are 1 to 6: each one alone can be what is heard. */
    private static void everyEar() {
        String[] sounds = {"hhhhhg", "hhhhgf", "hhhgef", "hhgdef", "hgcdef", "gbcdef"};
        for (int common = 0; common < 6; common++) {
            RhymeFerry x = Check.told("ferry ear 2 pairs 1;word a sounds abcdef price 1;word b sounds " + sounds[common]
                + " price 1;person m plain on near has a;person n plain on near has b;got m n wet");
            CHECK.answer(x, "one", x.heard(), 1);
            CHECK.answer(x, "least", x.heardEar(false), common + 1);
            CHECK.answer(x, "greatest", x.heardEar(true), common + 1);
        }
        RhymeFerry none = Check.told("ferry ear 2 pairs 1;word a sounds abcdef price 1;person m plain on near has a"
            + ";person n plain on near has a;got m n wet");
        CHECK.answer(none, "no ear of 7", none.heard(), 0);
        CHECK.answer(none, "least", none.heardEar(false), -2);
        CHECK.answer(none, "greatest", none.heardEar(true), -2);
    }

    /** "by whom, it being told how they get over, at most fewest of these are left, the first such". */
    private static void ask() {
        // By two letters in common ears 1, 2 | 3 | 4, 5, 6; by four 1 .. 4 | 5 | 6; by none none | 1 | 2 .. 6.
        asks(FOUR, 1, 3);
        asks(FOUR + ";got m n back", 2, 1);
        asks(FOUR + ";got m n over", 3, 1);
        asks(FOUR + ";got m n wet", 1, 1);
        // All pairs leave all that there are: the first.
        asks(FOUR + ";got m z back;got m n over", 1, 1);
        // Only the last two tell anything: the others are children.
        asks("ferry ear 2 pairs 1;word a sounds ab price 1;person m child on near has a;person n child on near has a"
            + ";person o plain on near has a;person p plain on far has a", 23, 3);
        asks("ferry ear 2 pairs 1;word a sounds ab price 1;person m child on near has a;person n child on near has a", 1, 6);
        StringBuilder eight = new StringBuilder("ferry ear 2 pairs 1;word a sounds ab price 1");
        for (int i = 0; i < 8; i++) {
            eight.append(";person ").append((char) ('m' + i)).append(i < 6 ? " child" : " plain").append(" on near has a");
        }
        asks(eight.toString(), 67, 3);
    }

    private static void asks(String text, int two, int left) {
        RhymeFerry x = Check.told(text);
        CHECK.answer(x, "ask", x.ask(), two);
        CHECK.answer(x, "askLeaves", x.askLeaves(), left);
        CHECK.answer(x, "ask again", x.ask(), two);
    }

    /** "-2 there is one person alone, no such ear". */
    private static void oneAloneOrNoEar() {
        asks(Check.LEAST, -2, -2);
        asks(FOUR + ";got m n over;got m n back", -2, -2);
        RhymeFerry x = Check.told(FOUR + ";got m n over;got m z over");
        CHECK.answer(x, "no ear by which z got over", x.ask(), -2);
        x.buy(3, 2);
        CHECK.answer(x, "by words NOW", x.heard(), 2);
        CHECK.answer(x, "all that rhyme do so by both", x.askLeaves(), 2);
        CHECK.answer(x, "the first then", x.ask(), 1);
        x.undo();
        CHECK.answer(x, "no ear again", x.ask(), -2);
        CHECK.answer(x, "nothing left", x.askLeaves(), -2);
        RhymeFerry y = Check.told(FOUR);
        CHECK.answer(y, "some", y.ask(), 1);
        Check.tell(y, Check.LEAST);
        CHECK.answer(y, "one alone by another text", y.ask(), -2);
    }

    // ---- SELLERS

    /** "at prices 0 .. 9": each has his price as often as he sells; of like ones the first seller's. */
    private static void prices() {
        // n alone buys, by either word he rhymes with m; o is over the river.
        RhymeFerry z = Check.told("ferry ear 2 pairs 1;word w sounds ab price 50;word u sounds cab price 50;word x sounds dab price 1"
            + ";word y sounds gg price 1;person m plain on near has x;person n plain on near has y;person o plain on far has y");
        for (int price = 0; price <= 9; price++) {
            for (int others = 0; others <= 9; others++) {
                CHECK.due("the one " + price + " " + others, z.sells(0, price, 1, others, 0, false), price <= others ? price : 0);
                CHECK.due("the other " + price + " " + others, z.sells(0, price, 1, others, 0, true), price > others ? others : 0);
            }
        }
    }

    /** "each person on the near bank who RHYMES FULLY with nobody there buys .. by which he would (as one who has it too)". */
    private static void whoBuys() {
        String words = "ferry ear 2 pairs 1;word w sounds ab price 1;word u sounds cd price 1;word x sounds ef price 1"
            + ";word y sounds gg price 1";
        RhymeFerry x = Check.told(words + ";person m plain on near has w;person n plain on near has u");
        // m buys u to rhyme with n; n buys w to rhyme with m.
        CHECK.answer(x, "the one sells to n", x.sells(0, 7, 1, 8, 0, false), 7);
        CHECK.answer(x, "the other to m", x.sells(0, 7, 1, 8, 0, true), 8);
        CHECK.answer(x, "the other way about", x.sells(1, 8, 0, 7, 0, false), 8);
        CHECK.answer(x, "a word that is no use", x.sells(2, 9, 3, 9, 0, false), 0);
        x.buy(0, 1);
        CHECK.answer(x, "they rhyme now", x.sells(0, 7, 1, 8, 0, true), 0);
        x.undo();
        x.buy(1, 2);
        CHECK.answer(x, "x would help m too, the first of like ones", x.sells(2, 5, 1, 5, 0, false), 5);
        CHECK.answer(x, "at the dearer price the other", x.sells(2, 6, 1, 5, 0, true), 5);
        RhymeFerry far = Check.told(words + ";person m plain on far has w;person n plain on far has u;person o plain on near has x");
        CHECK.answer(far, "nobody there to rhyme with", far.sells(0, 9, 1, 9, 0, false), 0);
        RhymeFerry half = Check.told(words.replace("ear 2", "ear 3").replace("sounds cd", "sounds bcd")
            + ";person m plain on near has u;person n plain on near has u;hour 4 ear 4");
        CHECK.answer(half, "at 0 they rhyme", half.sells(1, 9, 0, 9, 0, false), 0);
        CHECK.answer(half, "at 4 by half, and no word is enough", half.sells(1, 9, 0, 9, 4, false), 0);
        CHECK.answer(half, "all prices rest then", half.rests(1, 0, 4), 100);
    }

    /** "REST: a pair of prices by which neither could have more alone." */
    private static void rests() {
        String words = "ferry ear 2 pairs 1;word w sounds ab price 1;word u sounds cd price 1;word x sounds ef price 1";
        RhymeFerry each = Check.told(words + ";person m plain on near has w;person n plain on near has u");
        CHECK.answer(each, "one buyer each: both as dear as can be", each.rests(0, 1, 0), 1);
        CHECK.answer(each, "99", each.rest(0, 1, 0), 99);
        // w alone is of use: the other's price is all the same.
        CHECK.answer(each, "one sells, the other not", each.rests(0, 2, 0), 10);
        CHECK.answer(each, "90 is the first", each.rest(0, 2, 0), 90);
        CHECK.answer(each, "the other way about", each.rests(2, 0, 0), 10);
        CHECK.answer(each, "09", each.rest(2, 0, 0), 9);
        RhymeFerry none = Check.told(words + ";person m plain on near has w;person n plain on near has w");
        CHECK.answer(none, "nobody buys: all", none.rests(0, 1, 0), 100);
        CHECK.answer(none, "00", none.rest(0, 1, 0), 0);
        // One buyer for either: at 0 0, 1 0 and 1 1 the other could only sell for nothing, the first for no more.
        RhymeFerry either = Check.told("ferry ear 2 pairs 1;word w sounds ab price 1;word u sounds cab price 1;word x sounds ef price 1"
            + ";person m plain on near has w;person n plain on near has x");
        CHECK.answer(either, "0 0, 1 0 and 1 1", either.rests(0, 1, 0), 3);
        CHECK.answer(either, "0 0 first", either.rest(0, 1, 0), 0);
        RhymeFerry mixed = Check.told(Check.FIVE);
        CHECK.answer(mixed, "none at all", mixed.rests(1, 0, 9), 0);
        CHECK.answer(mixed, "-2", mixed.rest(1, 0, 9), -2);
    }

    // ---- DAYS

    private static long next(long seed) {
        return (75 * seed + 74) % 65537;
    }

    /** What a draw adds to the EAR. */
    private static int adds(long drawn) {
        return (int) (drawn % 3) - 1;
    }

    /** SEEDS 0 .. 65,536, hours 0 .. 24: the least and the greatest are taken. */
    private static void seeds() {
        RhymeFerry x = Check.told("ferry ear 2 pairs 1" + SIX);
        for (int seed : new int[] {0, 1, 2, 3, 873, 874, 65534, 65535, 65536}) {
            for (int n = 0; n <= 3; n++) {
                int crossed = 0;
                long drawn = seed;
                for (int i = 0; i < n; i++) {
                    drawn = next(drawn);
                    crossed += adds(drawn) <= 0 ? 2 : 0;
                }
                CHECK.answer(x, "day " + seed + " " + n, x.day(seed, n), crossed);
            }
            CHECK.answer(x, "all in a day", x.day(seed, 24), 6);
            CHECK.answer(x, "in no hour", x.crossedIn(0, seed, 0), -2);
        }
    }

    /** "mod 65,537": seeds whose next is 0, 1, 65,535, 65,536. */
    private static void seedWraps() {
        RhymeFerry x = Check.told("ferry ear 2 pairs 3" + SIX);
        for (int due : new int[] {0, 1, 2, 65534, 65535, 65536}) {
            for (int seed = 0; seed <= 65536; seed++) {
                if (next(seed) == due) {
                    CHECK.answer(x, "next of " + seed + " is " + due, x.day(seed, 1), adds(due) <= 0 ? 6 : 0);
                    int second = adds(due) <= 0 || adds(next(due)) <= 0 ? 6 : 0;
                    CHECK.answer(x, "two hours of " + seed, x.day(seed, 2), second);
                }
            }
        }
    }

    /** "so many hours from NOW", behind 23 comes 0; "In which of them (1, 2, ..)". */
    private static void hoursOfADay() {
        // At hour 3 alone they can rhyme, and they do by any draw.
        RhymeFerry x = Check.told("ferry ear 5 pairs 3" + SIX + ";hour 3 ear 1");
        for (int now = 0; now < 24; now++) {
            int until = (3 - now + 24) % 24 + 1;
            CHECK.due("from " + now, x.crossedIn(0, 99, 24), until);
            CHECK.due("from " + now + ", just so long", x.day(99, until), 6);
            CHECK.due("from " + now + ", one hour less", x.day(99, until - 1), 0);
            CHECK.due("from " + now + ", one hour less", x.crossedIn(5, 99, until - 1), -2);
            x.hours(1);
        }
        CHECK.due("round the clock", x.size(8), 0);
        RhymeFerry none = Check.told(Check.LEAST);
        CHECK.answer(none, "one alone stays", none.day(7, 24), 0);
        CHECK.answer(none, "one alone stays", none.crossedIn(0, 7, 24), -2);
    }

    /** "EAR is more by a DRAW mod 3, less 1 (1 at least)". */
    private static void earOfADay() {
        String two = ";word aaaaaaa sounds ab price 1;word baaaaaa sounds ab price 1;word c sounds gb price 1;word d sounds hh price 1"
            + ";person m deaf on near has aaaaaaa;person n deaf on near has ";
        for (int seed = 0; seed < 65537; seed += 2731) {
            int more = adds(next(seed));
            RhymeFerry six = Check.told("ferry ear 2 pairs 1" + two + "baaaaaa;hour 0 ear 6");
            CHECK.answer(six, "six letters by 6 " + more, six.day(seed, 1), more <= 0 ? 2 : 0);
            RhymeFerry seven = Check.told("ferry ear 2 pairs 1" + two + "aaaaaaa;hour 0 ear 6");
            CHECK.answer(seven, "seven letters by 6 " + more, seven.day(seed, 1), 2);
            String plain = ";word a sounds ab price 1;word b sounds cb price 1;word d sounds hh price 1;person m plain on near has a"
                + ";person n plain on near has ";
            RhymeFerry one = Check.told("ferry ear 2 pairs 1" + plain + "b;hour 0 ear 1");
            CHECK.answer(one, "one letter by 1 " + more, one.day(seed, 1), more <= 0 ? 2 : 0);
            RhymeFerry none = Check.told("ferry ear 2 pairs 1" + plain + "d;hour 0 ear 1");
            CHECK.answer(none, "no letter by 1 " + more + ", 1 at least", none.day(seed, 1), 0);
            RhymeFerry by = Check.told("ferry ear 2 pairs 1" + plain + "b");
            CHECK.answer(by, "one letter by the ferry's 2 " + more, by.day(seed, 1), more < 0 ? 2 : 0);
        }
    }

    /** "the first of MOST PAIRS of the near bank, as many as the ferry has, cross". */
    private static void pairsOfADay() {
        int[][] due = {{1, 1, 2, 2, 3, 3}, {1, 1, 1, 1, 2, 2}, {1, 1, 1, 1, 1, 1}};
        for (int pairs = 1; pairs <= 3; pairs++) {
            RhymeFerry x = Check.told("ferry ear 2 pairs " + pairs + SIX + ";hour 0 ear 1;hour 1 ear 1;hour 2 ear 1");
            for (int p = 0; p < 6; p++) {
                CHECK.answer(x, p + " by " + pairs, x.crossedIn(p, 4, 3), due[pairs - 1][p]);
            }
            for (int n = 0; n <= 3; n++) {
                CHECK.answer(x, n + " hours by " + pairs, x.day(4, n), Math.min(6, 2 * pairs * n));
            }
            CHECK.due("nobody has crossed by that", x.person(0, 1), 0);
        }
        // m rhymes with n too, but the most pairs are m - o, n - p: n crosses in the second hour.
        RhymeFerry most = Check.told("ferry ear 2 pairs 1;word a sounds abcd price 1;word b sounds cdef price 1;word c sounds efgh price 1"
            + ";person m plain on near has a;person n plain on near has a;person o plain on near has b;person p plain on near has c"
            + ";knows m b;knows n c");
        int[] crossed = {1, 2, 1, 2};
        for (int p = 0; p < 4; p++) {
            CHECK.answer(most, "most pairs: " + p, most.crossedIn(p, 8, 2), crossed[p]);
        }
        RhymeFerry far = Check.told("ferry ear 2 pairs 1;word a sounds ab price 1;person m child on far has a;person n child on far has a");
        CHECK.answer(far, "who is over stays", far.day(8, 24), 0);
        CHECK.answer(far, "who is over stays", far.crossedIn(1, 8, 24), -2);
    }
}
