/** Promises 38 to 46 at their edges: acts, 16 of them kept, 3 images, who is wet, sizes, trouble. */
final class ActEdgesTest {
    private static final Check CHECK = new Check();
    /** m and n rhyme by half at hour 0, fully at hour 1, not at all at hour 2; o is a poet, z is over. */
    private static final String TWO = "ferry ear 3 pairs 1;word a sounds ab price 0;word b sounds ab price 99;word c sounds gh price 1"
        + ";person m plain on near has a;person n plain on near has b;person o poet on near has a;person z plain on far has a"
        + ";hour 1 ear 2;hour 2 ear 4";

    public static void main(String[] args) {
        cross();
        wet();
        buy();
        hoursGoBy();
        nothingToUndo();
        undoEachAct();
        sixteenActs();
        whatIsRefusedIsNoAct();
        peopleAndWordsAsNow();
        threeImages();
        backToAnImage();
        nothingCanBeUndoneThen();
        imagesOfAFerry();
        led();
        sizes();
        trouble();
        CHECK.end();
    }

    // ---- CROSS, BUY, HOURS

    /** "2 FULLY, 1 by HALF. NONE: 1 (unlike); 5 (on two banks, no RHYME)", at the hour NOW. */
    private static void cross() {
        int[] due = {1, 2, -1};
        for (int hour = 0; hour < 3; hour++) {
            for (int order = 0; order < 2; order++) {
                RhymeFerry x = Check.told(TWO);
                if (hour > 0) {
                    x.hours(hour);
                }
                int got = x.cross(order, 1 - order);
                CHECK.due("at " + hour, got, due[hour]);
                CHECK.due("trouble at " + hour, x.trouble(), hour == 2 ? 5 : 0);
                CHECK.due("over", x.person(0, 1), hour == 2 ? 0 : 1);
                CHECK.due("over", x.person(1, 1), hour == 2 ? 0 : 1);
                CHECK.due("nobody else", x.person(2, 1), 0);
                CHECK.due("nobody else", x.person(3, 1), 1);
                CHECK.due("acts", x.size(10), (hour > 0 ? 1 : 0) + (hour == 2 ? 0 : 1));
            }
        }
        RhymeFerry x = Check.told(TWO);
        x.hours(1);
        CHECK.due("they rhyme", x.rhyme(0, 3, 1), 2);
        CHECK.refused(x, "on two banks", x.cross(0, 3), 5);
        CHECK.refused(x, "on two banks", x.cross(3, 0), 5);
        CHECK.answer(x, "over", x.cross(0, 1), 2);
        CHECK.answer(x, "on one bank now", x.cross(3, 0), 2);
        CHECK.due("back again", x.person(0, 1), 0);
        CHECK.due("both", x.person(3, 1), 0);
        CHECK.refused(x, "with one who stayed", x.cross(0, 1), 5);
    }

    /** "(by HALF both are WET once more)". */
    private static void wet() {
        RhymeFerry x = Check.told(TWO);
        for (int i = 1; i <= 5; i++) {
            CHECK.answer(x, "by half", x.cross(0, 1), 1);
            CHECK.due("m", x.person(0, 3), i);
            CHECK.due("n", x.person(1, 3), i);
            CHECK.due("o", x.person(2, 3), 0);
        }
        x.hours(1);
        CHECK.answer(x, "fully", x.cross(0, 1), 2);
        CHECK.due("no more", x.person(0, 3), 5);
        CHECK.due("no more", x.person(1, 3), 5);
        RhymeFerry often = Check.told(TWO);
        for (int i = 0; i < 480; i++) {
            often.cross(0, 1);
        }
        CHECK.due("as often as an object is good for", often.person(0, 3), 480);
        CHECK.due("and back", often.person(0, 1), 0);
        RhymeFerry poet = Check.told(TWO);
        CHECK.answer(poet, "a poet's half is fully", poet.cross(2, 0), 2);
        CHECK.due("dry", poet.person(2, 3), 0);
        CHECK.due("dry", poet.person(0, 3), 0);
        RhymeFerry none = Check.told(TWO);
        none.hours(2);
        none.cross(0, 1);
        CHECK.due("who doesn't cross is dry", none.person(0, 3), 0);
    }

    /** "coins PAID in all. NONE: 1; 5 (he has it)". */
    private static void buy() {
        RhymeFerry x = Check.told(TWO);
        CHECK.answer(x, "for nothing", x.buy(1, 0), 0);
        CHECK.answer(x, "the dearest", x.buy(0, 1), 99);
        CHECK.answer(x, "in all", x.buy(0, 2), 100);
        CHECK.answer(x, "another's", x.buy(3, 2), 101);
        CHECK.due("paid", x.size(9), 101);
        for (int w = 0; w < 3; w++) {
            CHECK.refused(x, "he has it, word " + w, x.buy(0, w), 5);
        }
        CHECK.due("paid still", x.size(9), 101);
        CHECK.due("his words", x.person(0, 2), 7);
        CHECK.due("who has the last", x.word(2, 2), 9);
        StringBuilder dear = new StringBuilder("ferry ear 2 pairs 1");
        for (int i = 0; i < 10; i++) {
            dear.append(";word ").append((char) ('a' + i)).append(" sounds ab price 99");
        }
        for (int i = 0; i < 8; i++) {
            dear.append(";person ").append((char) ('m' + i)).append(" plain on near has a");
        }
        RhymeFerry all = Check.told(dear.toString());
        for (int i = 0; i < 72; i++) {
            CHECK.due("all that can be bought", all.buy(i % 8, 1 + i / 8), 99 * (i + 1));
        }
        CHECK.due("all words", all.person(7, 2), 1023);
        CHECK.due("everybody", all.word(9, 2), 255);
    }

    /** "HOURS (1 .. 23): the hour then", "behind 23 comes 0". */
    private static void hoursGoBy() {
        for (int n = 1; n <= 23; n++) {
            RhymeFerry x = Check.told(TWO);
            int hour = 0;
            for (int i = 0; i < 25; i++) {
                hour += n;
                hour -= hour >= 24 ? 24 : 0;
                CHECK.answer(x, n + " hours", x.hours(n), hour);
                CHECK.due("the hour NOW", x.size(8), hour);
            }
        }
        RhymeFerry x = Check.told(TWO);
        for (int no : new int[] {0, 24, -1, 25, 48, -23, Integer.MIN_VALUE, Integer.MAX_VALUE}) {
            CHECK.refused(x, "hours " + no, x.hours(no), 2);
            CHECK.due("the hour stays", x.size(8), 0);
        }
    }

    // ---- UNDO

    /** "false: 6". */
    private static void nothingToUndo() {
        RhymeFerry none = new RhymeFerry();
        RhymeFerry fresh = Check.told(TWO);
        RhymeFerry spent = Check.told(TWO);
        spent.hours(1);
        spent.undo();
        for (RhymeFerry x : new RhymeFerry[] {none, fresh, spent}) {
            String before = Check.state(x);
            CHECK.due("undo", x.undo(), false);
            CHECK.due("trouble", x.trouble(), 6);
            CHECK.due("where", x.where(), -1);
            CHECK.same("nothing changes", Check.state(x), before);
        }
    }

    private static void undoEachAct() {
        RhymeFerry x = afterActs(6);
        for (int i = 5; i >= 0; i--) {
            CHECK.due("undo " + i, x.undo(), true);
            CHECK.due("trouble", x.trouble(), 0);
            CHECK.same("as before act " + i, Check.state(x), Check.state(afterActs(i)));
        }
        CHECK.due("no more", x.undo(), false);
    }

    private static RhymeFerry afterActs(int acts) {
        RhymeFerry x = Check.told(TWO);
        for (int i = 0; i < acts; i++) {
            switch (i) {
                case 0: CHECK.due("by half", x.cross(0, 1), 1); break;
                case 1: CHECK.due("bought", x.buy(2, 1), 99); break;
                case 2: CHECK.due("hour", x.hours(23), 23); break;
                case 3: CHECK.due("hour", x.hours(2), 1); break;
                case 4: CHECK.due("fully", x.cross(1, 0), 2); break;
                default: CHECK.due("bought", x.buy(0, 2), 100);
            }
        }
        return x;
    }

    /** "(16 are kept)": 15, 16, and 17. */
    private static void sixteenActs() {
        for (int acts = 14; acts <= 20; acts++) {
            RhymeFerry x = Check.told(TWO);
            for (int i = 0; i < acts; i++) {
                x.hours(1);
            }
            int kept = Math.min(acts, 16);
            CHECK.due("kept of " + acts, x.size(10), kept);
            for (int i = 1; i <= kept; i++) {
                CHECK.due("undo " + i, x.undo(), true);
                CHECK.due("hour", x.size(8), acts - i);
                CHECK.due("left", x.size(10), kept - i);
            }
            CHECK.due("no more than 16", x.undo(), false);
            CHECK.due("trouble", x.trouble(), 6);
            CHECK.due("the hour stays", x.size(8), acts - kept);
        }
        RhymeFerry x = Check.told(TWO);
        for (int i = 0; i < 16; i++) {
            x.hours(1);
        }
        x.undo();
        x.hours(5);
        CHECK.due("16 again", x.size(10), 16);
        x.hours(5);
        CHECK.due("16 still", x.size(10), 16);
        for (int i = 0; i < 16; i++) {
            CHECK.due("undo", x.undo(), true);
        }
        CHECK.due("the oldest was let go", x.size(8), 1);
        CHECK.due("no more", x.undo(), false);
    }

    private static void whatIsRefusedIsNoAct() {
        RhymeFerry x = Check.told(TWO);
        x.hours(2);
        x.cross(0, 1);
        x.buy(0, 0);
        x.hours(24);
        x.cross(0, 0);
        x.buy(9, 9);
        x.day(1, 24);
        x.image();
        CHECK.due("one act", x.size(10), 1);
        CHECK.due("undo", x.undo(), true);
        CHECK.due("the hour", x.size(8), 0);
        CHECK.due("an image is not undone", x.size(11), 1);
    }

    /** Terms III: "People, words as NOW.": all answers go by what was bought, who has crossed, and what was undone. */
    private static void peopleAndWordsAsNow() {
        // At hour 0 the ear is 1, by a draw 2 at most: of two letters they rhyme fully, of none by half.
        String text = "ferry ear 2 pairs 1;word a sounds ab price 3;word b sounds cd price 5;word c sounds ef price 7"
            + ";person m plain on near has a;person n plain on near has b;errand m by 1;got m n over;hour 0 ear 1;hour 1 ear 2";
        RhymeFerry x = Check.told(text);
        String before = "1 0 1 2 -2 0 1 1 2 0 -2 3 0 0 3 1 3 0 -2 -2 -2 9 9 1 99 0 -2";
        CHECK.same("nothing bought", answers(x), before);
        x.buy(0, 1);
        CHECK.same("m has bought b", answers(x), "2 2 3 1 0 24 -2 1 2 1 1 0 1 -2 0 0 2 2 2 1 2 0 0 100 0 2 1");
        CHECK.due("over", x.cross(0, 1), 2);
        CHECK.same("both are over", answers(x), "2 2 3 1 0 24 -2 1 2 0 -2 0 0 -2 0 0 0 2 2 1 2 0 0 100 0 0 -2");
        x.undo();
        x.undo();
        CHECK.same("undone", answers(x), before);
    }

    private static String answers(RhymeFerry x) {
        int[] all = {x.rhyme(0, 1, 0), x.with(0, 0), x.classOf(0, 0), x.classes(0), x.meets(0, 1), x.often(0, 1), x.cheapest(0, 0),
            x.bestName(0, 0), x.renamed(0, 1, 0), x.pairs(0, 0), x.partner(0, 0, 0), x.alone(0, 0), x.kept(0), x.judge(),
            x.coins(0, 0), x.keep(0, 0), x.refrain(0, 0), x.heard(), x.heardEar(true), x.ask(), x.askLeaves(),
            x.sells(0, 9, 1, 9, 0, false), x.sells(0, 9, 1, 9, 0, true), x.rests(0, 1, 0), x.rest(0, 1, 0), x.day(0, 1),
            x.crossedIn(0, 0, 1)};
        StringBuilder text = new StringBuilder();
        for (int answer : all) {
            text.append(text.length() == 0 ? "" : " ").append(answer);
        }
        return text.toString();
    }

    // ---- IMAGES

    /** "up to 3", "NONE: 1 (no FERRY); 3". */
    private static void threeImages() {
        RhymeFerry x = Check.told(TWO);
        for (int i = 0; i < 3; i++) {
            CHECK.answer(x, "its number", x.image(), i);
            CHECK.due("images", x.size(11), i + 1);
            x.hours(1);
        }
        for (int i = 0; i < 2; i++) {
            CHECK.refused(x, "a fourth", x.image(), 3);
            CHECK.due("images", x.size(11), 3);
        }
        for (int i = 0; i < 3; i++) {
            CHECK.due("back to " + i, x.back(i), true);
            CHECK.due("each as it was", x.size(8), i);
        }
        CHECK.refused(x, "gone back, no room still", x.image(), 3);
        CHECK.due("there is no fourth", x.back(3), false);
        CHECK.due("trouble", x.trouble(), 1);
        RhymeFerry none = new RhymeFerry();
        CHECK.refused(none, "no FERRY", none.image(), 1);
        CHECK.due("no images", none.size(11), 0);
    }

    /** "All is as by an IMAGE (all IMAGES stay): true; false: 1." */
    private static void backToAnImage() {
        RhymeFerry x = Check.told(TWO);
        x.cross(0, 1);
        x.buy(0, 1);
        x.hours(7);
        x.image();
        String then = wordsAndPeople(x);
        x.hours(18);
        x.cross(0, 1);
        x.buy(2, 2);
        x.image();
        CHECK.due("back", x.back(0), true);
        CHECK.due("trouble", x.trouble(), 0);
        CHECK.due("hour", x.size(8), 7);
        CHECK.due("paid", x.size(9), 99);
        CHECK.due("images", x.size(11), 2);
        CHECK.due("banks", x.person(0, 1), 1);
        CHECK.due("words", x.person(0, 2), 3);
        CHECK.due("wet", x.person(0, 3), 1);
        CHECK.due("not bought", x.person(2, 2), 1);
        CHECK.due("forth", x.back(1), true);
        CHECK.due("hour", x.size(8), 1);
        CHECK.due("paid", x.size(9), 100);
        CHECK.due("bank", x.person(0, 1), 0);
        CHECK.due("bought", x.person(2, 2), 5);
        String before = Check.state(x);
        for (int no : new int[] {-1, 2, 3, Integer.MIN_VALUE, Integer.MAX_VALUE}) {
            CHECK.due("back " + no, x.back(no), false);
            CHECK.due("trouble", x.trouble(), 1);
        }
        CHECK.same("nothing changes", Check.state(x), before);
        CHECK.due("the first again", x.back(0), true);
        CHECK.same("words and people as they were", wordsAndPeople(x), then);
    }

    private static String wordsAndPeople(RhymeFerry x) {
        String state = Check.state(x);
        return state.substring(state.indexOf('w'));
    }

    /** "gone back to one, nothing can be undone". */
    private static void nothingCanBeUndoneThen() {
        RhymeFerry x = Check.told(TWO);
        x.hours(3);
        x.image();
        x.hours(4);
        CHECK.due("two acts", x.size(10), 2);
        CHECK.due("back", x.back(0), true);
        CHECK.due("none", x.size(10), 0);
        CHECK.due("undo", x.undo(), false);
        CHECK.due("trouble", x.trouble(), 6);
        CHECK.due("the hour", x.size(8), 3);
        x.hours(5);
        CHECK.due("but what comes then", x.size(10), 1);
        CHECK.due("undo", x.undo(), true);
        CHECK.due("the hour", x.size(8), 3);
        CHECK.due("no farther", x.undo(), false);
        x.hours(5);
        CHECK.due("to one that isn't there", x.back(1), false);
        CHECK.due("acts stay then", x.size(10), 1);
    }

    /** A new FERRY has no IMAGES, and there is room for three again. */
    private static void imagesOfAFerry() {
        RhymeFerry x = Check.told(TWO);
        for (int i = 0; i < 3; i++) {
            x.hours(1);
            x.image();
        }
        Check.tell(x, TWO);
        CHECK.due("none", x.size(11), 0);
        CHECK.due("back", x.back(0), false);
        CHECK.due("the hour", x.size(8), 0);
        for (int i = 0; i < 3; i++) {
            CHECK.answer(x, "room again", x.image(), i);
        }
        CHECK.due("back", x.back(2), true);
        CHECK.due("to this one's", x.size(8), 0);
    }

    // ---- what is told

    /** "The i-th person, by numbers, who is WET. NoSuchElementException if there is none such." */
    private static void led() {
        RhymeFerry none = new RhymeFerry();
        RhymeFerry dry = Check.told(TWO);
        for (int i : new int[] {0, 1, -1, 7, 8, Integer.MIN_VALUE, Integer.MAX_VALUE}) {
            CHECK.noLed(none, i);
            CHECK.noLed(dry, i);
        }
        StringBuilder text = new StringBuilder("ferry ear 3 pairs 1;word a sounds ab price 0");
        for (int i = 0; i < 8; i++) {
            text.append(";person ").append((char) ('m' + i)).append(" plain on near has a");
        }
        RhymeFerry x = Check.told(text.toString());
        x.cross(7, 2);
        CHECK.due("the first", x.led(0), 2);
        CHECK.due("the second", x.led(1), 7);
        CHECK.noLed(x, 2);
        CHECK.noLed(x, -1);
        x.cross(0, 5);
        int[] four = {0, 2, 5, 7};
        for (int i = 0; i < 4; i++) {
            CHECK.due("by numbers", x.led(i), four[i]);
        }
        CHECK.noLed(x, 4);
        x.cross(1, 3);
        x.cross(4, 6);
        for (int i = 0; i < 8; i++) {
            CHECK.due("all are wet", x.led(i), i);
        }
        CHECK.noLed(x, 8);
        x.cross(0, 1);
        CHECK.due("twice wet counts once", x.led(1), 1);
        CHECK.due("trouble is not touched", x.trouble(), 0);
        for (int i = 0; i < 5; i++) {
            x.undo();
        }
        CHECK.noLed(x, 0);
        CHECK.due("trouble is not touched", x.trouble(), 0);
    }

    /** "NONE for others; 0 for what there isn't." */
    private static void sizes() {
        for (RhymeFerry x : new RhymeFerry[] {new RhymeFerry(), Check.told(TWO)}) {
            for (int no : new int[] {-1, 13, 14, 100, Integer.MIN_VALUE, Integer.MAX_VALUE}) {
                CHECK.due("size " + no, x.size(no), -1);
            }
        }
        RhymeFerry x = Check.told("ferry ear 5 pairs 3;word a sounds ab price 1;person p plain on near has a");
        int[] least = {5, 3, 1, 1, 0, 0, 0, 0, 0, 0, 0, 0, 0};
        for (int what = 0; what <= 12; what++) {
            CHECK.due("of the least, size " + what, x.size(what), least[what]);
        }
        RhymeFerry y = Check.told("ferry ear 2 pairs 1;word a sounds ab price 1;word b sounds ab price 7;person p plain on near has a"
            + ";person q plain on far has a;person r plain on near has b;alike a b;alike a c;hour 0 ear 1;hour 1 ear 1;hour 2 ear 1"
            + ";errand p by 1;errand q by 1;got p q over;got p q over;got p q over;got p q over;got p q over");
        y.hours(23);
        y.buy(0, 1);
        y.buy(2, 0);
        y.image();
        y.image();
        y.feed(0, 0, 0, 0, 0);
        y.feed(0, 0, 0, 0, 0);
        int[] more = {2, 1, 2, 3, 2, 3, 2, 5, 23, 8, 3, 2, 40};
        for (int what = 0; what <= 12; what++) {
            CHECK.due("size " + what, y.size(what), more[what]);
        }
    }

    /** TROUBLE 0 to 6, of the latest call that may be refused. */
    private static void trouble() {
        RhymeFerry x = Check.told(TWO);
        for (int i = 0; i <= 6; i++) {
            bring(x, i);
            CHECK.due("trouble " + i, x.trouble(), i);
            CHECK.due("asked again " + i, x.trouble(), i);
            x.feed(0, 0, 0, 0, 0);
            x.fault();
            x.where();
            x.size(-1);
            CHECK.noLed(x, 0);
            CHECK.due("not by calls that have no number " + i, x.trouble(), i);
            for (int k = 0; k <= 6; k++) {
                bring(x, i);
                bring(x, k);
                CHECK.due("the latest, " + k + " behind " + i, x.trouble(), k);
            }
        }
    }

    private static void bring(RhymeFerry x, int trouble) {
        switch (trouble) {
            case 0: x.ear(0); break;
            case 1: x.like(0, 3); break;
            case 2: x.ear(24); break;
            case 3:
                for (int i = 0; i < 4; i++) {
                    x.image();
                }
                break;
            case 4: x.ferry(0); break;
            case 5: x.buy(0, 0); break;
            default: x.undo();
        }
    }
}
