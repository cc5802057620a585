/** Promises 1 to 5: a new object, the tape, texts and their faults. */
final class TextTest {
    private static final Check CHECK = new Check();
    private static final String FERRY = "ferry ear 2 pairs 1";
    private static final String TWO_WORDS = FERRY + ";word w sounds ab price 1;word v sounds bc price 0";
    private static final String TWO_PEOPLE = TWO_WORDS + ";person p plain on near has w;person q deaf on far has v";

    public static void main(String[] args) {
        newObject();
        tape();
        ferries();
        nothingOfFormerFerries();
        faultAndWhere();
        form();
        tokens();
        names();
        again();
        bounds();
        many();
        lacks();
        sounds();
        leftmost();
        CHECK.end();
    }

    private static void newObject() {
        RhymeFerry x = new RhymeFerry();
        CHECK.due("new: trouble", x.trouble(), 0);
        CHECK.due("new: fault", x.fault(), 0);
        CHECK.due("new: where", x.where(), -1);
        for (int what = 0; what <= 12; what++) {
            CHECK.due("new: size " + what, x.size(what), 0);
        }
        CHECK.refused(x, "new: ear", x.ear(0), 1);
        CHECK.refused(x, "new: ear of no hour", x.ear(99), 1);
    }

    private static void tape() {
        RhymeFerry x = new RhymeFerry();
        CHECK.refused(x, "ferry(1) of an empty tape", x.ferry(1), 2);
        for (int i = 1; i <= 45; i++) {
            CHECK.due("feed", x.feed(0x20202020, 0x20202020, 0x20202020, 0x20202020, 0x20202020), 20 * i);
        }
        CHECK.due("feed beyond 900", x.feed(0, 0, 0, 0, 0), -1);
        CHECK.due("the tape is full", x.size(12), 900);
        CHECK.due("feed is none that may be refused", x.trouble(), 2);
        CHECK.refused(x, "ferry(901)", x.ferry(901), 2);
        CHECK.refused(x, "ferry(-1)", x.ferry(-1), 2);
        CHECK.due("the tape stays", x.size(12), 900);
        CHECK.refused(x, "900 blanks", x.ferry(900), 4);
        CHECK.due("900 blanks: fault", x.fault(), 1);
        CHECK.due("900 blanks: where", x.where(), 900);
        CHECK.due("the tape is empty", x.size(12), 0);
        CHECK.refused(x, "ferry(0)", x.ferry(0), 4);
        CHECK.due("ferry(0): fault", x.fault(), 1);
        CHECK.due("ferry(0): where", x.where(), 0);
        // "ferr", "y ea", "r 2;" and more, of each number the highest byte first
        CHECK.due("feed", x.feed(0x66657272, 0x79206561, 0x7220323b, 0x80ffffff, -1), 20);
        CHECK.refused(x, "bytes in their order", x.ferry(20), 4);
        CHECK.due("bytes in their order: where", x.where(), 11);
    }

    private static void ferries() {
        RhymeFerry x = new RhymeFerry();
        CHECK.answer(x, "five", Check.tell(x, Check.FIVE), 5);
        CHECK.answer(x, "blanks and none", Check.tell(x,
            "  ferry ear2pairs3 ;word w sounds ab price007;person p poet on near has w  "), 1);
        CHECK.due("ear", x.size(0), 2);
        CHECK.due("pairs", x.size(1), 3);
        CHECK.due("price", x.word(0, 0), 7);
        CHECK.due("no errand", x.person(0, 4), 0);
        Check.feed(x, TWO_PEOPLE + ";knows p v and more that is not read");
        CHECK.answer(x, "the first bytes alone", x.ferry(TWO_PEOPLE.length() + 10), 2);
        CHECK.due("knows", x.person(0, 2), 3);
        CHECK.due("the rest is gone", x.size(12), 0);
        x.hours(3);
        x.buy(1, 0);
        x.image();
        CHECK.refused(x, "a fault", Check.tell(x, FERRY), 4);
        CHECK.due("the ferry stays", x.size(3), 2);
        CHECK.due("the hour stays", x.size(8), 3);
        CHECK.due("the coins stay", x.size(9), 1);
        CHECK.due("the acts stay", x.size(10), 2);
        CHECK.due("the images stay", x.size(11), 1);
        CHECK.due("the words stay", x.person(1, 2), 3);
        CHECK.answer(x, "anew", Check.tell(x, TWO_PEOPLE), 2);
        for (int what = 4; what <= 12; what++) {
            CHECK.due("anew: size " + what, x.size(what), 0);
        }
        CHECK.due("words as told", x.person(1, 2), 2);
        CHECK.due("banks as told", x.person(1, 1), 1);
    }

    private static void nothingOfFormerFerries() {
        String words = ";word a sounds ab price 5;word b sounds ac price 6;person p plain on near has a"
            + ";person q plain on near has b";
        RhymeFerry x = Check.told("ferry ear 2 pairs 2" + words + ";alike b c;hour 3 ear 6;errand p by 3;got p q over");
        CHECK.due("alike", x.rhyme(0, 1, 0), 2);
        for (int i = 0; i < 3; i++) {
            Check.tell(x, "ferry ear 2 pairs 1" + words);
            CHECK.due("not alike any more", x.like(0, 1), 0);
            CHECK.due("no rhyme any more", x.rhyme(0, 1, 0), 0);
            CHECK.due("no hour any more", x.ear(3), 2);
            CHECK.due("no errand any more", x.person(0, 4), 0);
            CHECK.due("nothing got any more", x.heard(), 6);
            for (int what = 4; what <= 7; what++) {
                CHECK.due("size " + what, x.size(what), 0);
            }
        }
        Check.tell(x, "ferry ear 2 pairs 1;word a sounds ab price 5;person p plain on near has a");
        CHECK.due("one word", x.word(1, 0), -1);
        CHECK.due("one person", x.person(1, 0), -1);
        Check.tell(x, "ferry ear 9");
        CHECK.due("a text with a fault leaves nothing", x.size(2), 1);
    }

    private static void faultAndWhere() {
        RhymeFerry x = new RhymeFerry();
        Check.tell(x, FERRY + "!");
        CHECK.due("fault", x.fault(), 1);
        CHECK.due("where", x.where(), 19);
        x.feed(0, 0, 0, 0, 0);
        x.size(0);
        CHECK.noLed(x, 0);
        CHECK.due("where is not touched by calls that are never refused", x.where(), 19);
        x.ferry(21);
        CHECK.due("where by trouble 2", x.where(), -1);
        CHECK.due("fault by trouble 2", x.fault(), 1);
        x.ferry(20);
        CHECK.due("where again", x.where(), 0);
        x.hours(1);
        CHECK.due("where by trouble 1", x.where(), -1);
        CHECK.due("fault stays", x.fault(), 1);
        Check.tell(x, TWO_PEOPLE);
        CHECK.due("no fault", x.fault(), 0);
        CHECK.due("no place", x.where(), -1);
    }

    private static void form() {
        CHECK.fault("", 1, 0);
        CHECK.fault("ferry", 1, 5);
        CHECK.fault("ferry   ", 1, 8);
        CHECK.fault("ferry ears 2", 1, 6);
        CHECK.fault("ferry ear x", 1, 10);
        CHECK.fault("ferry ear ;", 1, 10);
        CHECK.fault("ferry ear 2 3", 1, 12);
        CHECK.fault("ferry ear 2 pairs", 1, 17);
        CHECK.fault("boat ear 2 pairs 1", 1, 0);
        CHECK.fault(";" + FERRY, 1, 0);
        CHECK.fault("7", 1, 0);
        CHECK.fault(FERRY + ";", 1, 20);
        CHECK.fault(TWO_PEOPLE + ";", 1, TWO_PEOPLE.length() + 1);
        CHECK.fault(TWO_PEOPLE + ";;", 1, TWO_PEOPLE.length() + 1);
        CHECK.fault(TWO_PEOPLE + " word", 1, TWO_PEOPLE.length() + 1);
        CHECK.fault(TWO_PEOPLE + ";words", 1, TWO_PEOPLE.length() + 1);
        CHECK.fault(FERRY + ";word w sound ab", 1, 27);
        CHECK.fault(FERRY + ";word w sounds 12", 1, 34);
        CHECK.fault(FERRY + ";word w sounds ab prize", 1, 37);
        CHECK.fault(FERRY + ";word w sounds ab price five", 1, 43);
        CHECK.fault(FERRY + ";word 5", 1, 25);
        behind(TWO_WORDS, ";person p ", "shy", 1);
        behind(TWO_WORDS, ";person p deaf ", "at", 1);
        behind(TWO_WORDS, ";person p deaf", "", 1);
        behind(TWO_WORDS, ";person p deaf", ";word u sounds ab price 1", 1);
        behind(TWO_WORDS, ";person p deaf on ", "mid", 1);
        behind(TWO_WORDS, ";person p deaf on near ", "had", 1);
        behind(TWO_WORDS, ";person p deaf on near has ", "5", 1);
        behind(TWO_PEOPLE, ";knows ", "5", 1);
        behind(TWO_PEOPLE, ";knows p ", ";", 1);
        behind(TWO_PEOPLE, ";alike ", "5", 1);
        behind(TWO_PEOPLE, ";alike a ", "5", 1);
        behind(TWO_PEOPLE, ";hour ", "noon", 1);
        behind(TWO_PEOPLE, ";hour 5 ", "eye", 1);
        behind(TWO_PEOPLE, ";hour 5 ear ", "x", 1);
        behind(TWO_PEOPLE, ";errand p ", "at", 1);
        behind(TWO_PEOPLE, ";errand p by ", "one", 1);
        behind(TWO_PEOPLE, ";got p q ", "dry", 1);
        behind(TWO_PEOPLE, ";got p q ", "5", 1);
        behind(TWO_PEOPLE, ";got p q over ", "over", 1);
    }

    private static void behind(String text, String more, String token, int fault) {
        CHECK.fault(text + more + token, fault, text.length() + more.length());
    }

    private static void tokens() {
        CHECK.fault("Ferry", 1, 0);
        CHECK.fault("ferry\tear 2", 1, 5);
        CHECK.fault("ferry ear 2\n", 1, 11);
        CHECK.fault("ferry ear -2", 1, 10);
        CHECK.fault("ferry ear 2 pairs 1\u00e9", 1, 19);
        CHECK.fault(FERRY + ";word abcdefghi sounds ab", 1, 25);
        CHECK.fault("ferry ear 0002", 1, 10);
        CHECK.fault("ferry ear 4294967298", 1, 10);
        RhymeFerry x = new RhymeFerry();
        CHECK.answer(x, "eight letters, three digits", Check.tell(x,
            "ferry ear 002 pairs 001;word abcdefgh sounds abcdef price 099;person z child on far has abcdefgh"), 1);
        CHECK.due("eight letters", x.eye(0, 0), 8);
        CHECK.due("six sounds", x.word(0, 1), 6);
        CHECK.fault("ferryear 2", 1, 0);
    }

    private static void names() {
        for (String never : "ferry word person knows alike hour errand got".split(" ")) {
            behind(FERRY, ";word ", never, 1);
            behind(TWO_WORDS, ";person ", never, 1);
            behind(TWO_WORDS, ";person p plain on near has ", never, 1);
            behind(TWO_PEOPLE, ";knows ", never, 1);
            behind(TWO_PEOPLE, ";errand ", never, 1);
            behind(TWO_PEOPLE, ";got p ", never, 1);
        }
        RhymeFerry x = new RhymeFerry();
        CHECK.answer(x, "other words are names", Check.tell(x, FERRY
            + ";word ear sounds ab price 1;word sounds sounds cd price 2;person plain plain on near has ear"
            + ";person near deaf on near has sounds;errand plain by 1;got near plain back;knows plain sounds"), 2);
        behind(TWO_WORDS, ";person p plain on near has ", "u", 2);
        behind(TWO_WORDS, ";person p plain on near has ", "p", 2);
        behind(TWO_PEOPLE, ";knows ", "w", 2);
        behind(TWO_PEOPLE, ";knows ", "z", 2);
        behind(TWO_PEOPLE, ";knows p ", "q", 2);
        behind(TWO_PEOPLE, ";knows p ", "z", 2);
        behind(TWO_PEOPLE, ";errand ", "w", 2);
        behind(TWO_PEOPLE, ";got ", "w", 2);
        behind(TWO_PEOPLE, ";got p ", "w", 2);
        behind(TWO_PEOPLE, ";got p ", "z", 2);
        behind(TWO_WORDS, ";person wordling plain on near has w;knows wordlin ", "v", 2, -8);
    }

    private static void behind(String text, String more, String token, int fault, int off) {
        CHECK.fault(text + more + token, fault, text.length() + more.length() + off);
    }

    private static void again() {
        behind(TWO_PEOPLE, ";", "ferry", 3);
        behind(FERRY, ";", "ferry ear 9", 3);
        behind(TWO_PEOPLE, ";word ", "w", 3);
        behind(TWO_PEOPLE, ";word ", "p", 3);
        behind(TWO_PEOPLE, ";person ", "q", 3);
        behind(TWO_PEOPLE, ";person ", "v", 3);
        behind(TWO_PEOPLE, ";knows p ", "w", 3);
        behind(TWO_PEOPLE, ";knows p v;knows p ", "v", 3);
        behind(TWO_PEOPLE, ";alike a ", "a", 3);
        behind(TWO_PEOPLE, ";alike a b;alike a ", "b", 3);
        behind(TWO_PEOPLE, ";alike a b;alike b ", "a", 3);
        behind(TWO_PEOPLE, ";hour 5 ear 1;hour ", "5", 3);
        behind(TWO_PEOPLE, ";hour 5 ear 1;hour ", "005", 3);
        behind(TWO_PEOPLE, ";hour 0 ear 1;hour ", "0", 3);
        behind(TWO_PEOPLE, ";errand p by 1;errand ", "p", 3);
        behind(TWO_PEOPLE, ";got p ", "p", 3);
        RhymeFerry x = new RhymeFerry();
        CHECK.answer(x, "the same got twice", Check.tell(x,
            TWO_PEOPLE + ";got p q over;got p q wet;got q p back;alike a b;alike b c;alike a c"), 2);
        CHECK.due("gots", x.size(7), 3);
        CHECK.due("alikes", x.size(4), 3);
    }

    private static void bounds() {
        behind("ferry ear ", "", "1", 4);
        behind("ferry ear ", "", "6", 4);
        behind("ferry ear 2 pairs ", "", "0", 4);
        behind("ferry ear 2 pairs ", "", "4", 4);
        behind(FERRY, ";word w sounds ab price ", "100", 4);
        behind(TWO_PEOPLE, ";hour ", "24", 4);
        behind(TWO_PEOPLE, ";hour 0 ear ", "0", 4);
        behind(TWO_PEOPLE, ";hour 0 ear ", "7", 4);
        behind(TWO_PEOPLE, ";errand p by ", "0", 4);
        behind(TWO_PEOPLE, ";errand p by ", "5", 4);
        RhymeFerry x = new RhymeFerry();
        CHECK.answer(x, "the bounds", Check.tell(x, "ferry ear 5 pairs 3;word w sounds ab price 99"
            + ";person p plain on near has w;hour 0 ear 1;hour 23 ear 6;errand p by 4"), 1);
        CHECK.due("ear 6", x.ear(23), 6);
    }

    private static void many() {
        StringBuilder text = new StringBuilder("ferry ear 2 pairs 1");
        for (int i = 0; i < 10; i++) {
            text.append(";word ").append((char) ('a' + i)).append(" sounds ab price 1");
        }
        String words = text.toString();
        behind(words, ";", "word", 5);
        behind(words, ";", "word 5", 5);
        for (int i = 0; i < 8; i++) {
            text.append(";person ").append((char) ('m' + i)).append(" plain on far has a");
        }
        String people = text.toString();
        behind(people, ";", "person", 5);
        StringBuilder knows = new StringBuilder(people);
        for (int i = 0; i < 8; i++) {
            knows.append(";knows m ").append((char) ('b' + i));
        }
        behind(knows.toString(), ";", "knows n b", 5);
        String alikes = people + ";alike a b;alike b c;alike c d;alike d e";
        behind(alikes, ";", "alike a h", 5);
        StringBuilder hours = new StringBuilder(people);
        for (int i = 0; i < 8; i++) {
            hours.append(";hour ").append(3 * i).append(" ear ").append(1 + i % 6);
        }
        behind(hours.toString(), ";", "hour 1 ear 1", 5);
        String gots = people + ";got m n over;got m o over;got m p over;got m q over;got m r over;got m s over";
        behind(gots, ";", "got n o over", 5);
        StringBuilder errands = new StringBuilder(people);
        for (int i = 0; i < 8; i++) {
            errands.append(";errand ").append((char) ('m' + i)).append(" by 1");
        }
        RhymeFerry x = new RhymeFerry();
        CHECK.answer(x, "eight errands", Check.tell(x, errands.toString()), 8);
        CHECK.due("errands", x.size(6), 8);
        behind(errands.toString(), ";errand ", "t", 3);
        CHECK.answer(x, "ten words, eight people, eight knows", Check.tell(x, knows.toString()), 8);
        CHECK.due("all that one knows", x.person(0, 2), 511);
        CHECK.answer(x, "four alikes", Check.tell(x, alikes), 8);
        CHECK.answer(x, "eight hours", Check.tell(x, hours.toString()), 8);
        CHECK.due("hours", x.size(5), 8);
        CHECK.answer(x, "six gots", Check.tell(x, gots), 8);
        CHECK.due("gots", x.size(7), 6);
    }

    private static void lacks() {
        for (String line : "word person knows alike hour errand got".split(" ")) {
            CHECK.fault("  " + line + " 5", 6, 2);
        }
        CHECK.fault(FERRY, 6, 19);
        CHECK.fault(FERRY + "  ", 6, 21);
        CHECK.fault(TWO_WORDS, 6, TWO_WORDS.length());
        CHECK.fault(FERRY + ";hour 5 ear 5", 6, 32);
    }

    private static void sounds() {
        behind(FERRY, ";word w sounds ", "a", 7);
        behind(FERRY, ";word w sounds ", "abcdefg", 7);
        behind(FERRY, ";word w sounds ", "abi", 7);
        behind(FERRY, ";word w sounds ", "iab", 7);
        behind(FERRY, ";word w sounds ", "aib", 7);
        behind(FERRY, ";word w sounds ", "ferry", 7);
        behind(TWO_PEOPLE, ";alike ", "i", 7);
        behind(TWO_PEOPLE, ";alike ", "ab", 7);
        behind(TWO_PEOPLE, ";alike ", "got", 7);
        behind(TWO_PEOPLE, ";alike h ", "i", 7);
        behind(TWO_PEOPLE, ";alike h ", "hg", 7);
    }

    private static void leftmost() {
        CHECK.fault("ferry ear 9 pairs 9!", 4, 10);
        CHECK.fault(FERRY + ";word w sounds xyz price 100", 7, 34);
        CHECK.fault(TWO_PEOPLE + ";knows z z", 2, TWO_PEOPLE.length() + 7);
        CHECK.fault(TWO_PEOPLE + ";got z z dry", 2, TWO_PEOPLE.length() + 5);
        CHECK.fault(FERRY + ";!", 1, 20);
    }
}
