import java.util.Arrays;

/** Promises 1 to 5 at their edges: THE TAPE empty and full, how many bytes are read, what stays, what is told. */
final class TapeEdgesTest {
    private static final Check CHECK = new Check();
    private static final String BAD = "ferry ear 2 pairs 9";

    public static void main(String[] args) {
        newObject();
        order();
        full();
        fullAndOneMore();
        howManyBytes();
        emptyTape();
        tapeStaysOrIsEmpty();
        faultLeavesTheFerry();
        everythingAnew();
        nothingOfFormerFerries();
        howManyPeople();
        fault();
        where();
        CHECK.end();
    }

    /** Promise 1: "No FERRY", and size: "0 for what there isn't". */
    private static void newObject() {
        RhymeFerry x = new RhymeFerry();
        CHECK.same("new", Check.state(x), "0 0 0 0 0 0 0 0 0 0 0 0 0 ");
        CHECK.due("fault", x.fault(), 0);
        CHECK.due("where", x.where(), -1);
        CHECK.due("trouble", x.trouble(), 0);
        CHECK.noLed(x, 0);
        CHECK.noLed(x, -1);
        CHECK.due("nothing to undo", x.undo(), false);
        CHECK.due("no image", x.back(0), false);
        CHECK.same("two objects have nothing in common", told(Check.told(Check.LEAST)), "1 1");
        CHECK.due("no FERRY by another's", new RhymeFerry().size(3), 0);
    }

    private static String told(RhymeFerry x) {
        return x.size(2) + " " + x.size(3);
    }

    private static int[] blanks() {
        int[] five = new int[5];
        Arrays.fill(five, 0x20202020);
        return five;
    }

    private static int feed(RhymeFerry x, int[] five) {
        return x.feed(five[0], five[1], five[2], five[3], five[4]);
    }

    /** Promise 2: "Twenty bytes come behind THE TAPE, of each number the highest first". */
    private static void order() {
        for (int at = 0; at < 20; at++) {
            for (int before = 0; before <= 880; before += 440) {
                RhymeFerry x = new RhymeFerry();
                for (int i = 0; i < before; i += 20) {
                    feed(x, blanks());
                }
                int[] five = blanks();
                // A byte of 1 in place of a blank begins no TOKEN: the fault tells where it came to stand.
                five[at / 4] += (1 - 32) << 24 - at % 4 * 8;
                CHECK.due("how many", feed(x, five), before + 20);
                CHECK.refused(x, "the byte", x.ferry(before + 20), 4);
                CHECK.due("fault of the byte", x.fault(), 1);
                CHECK.due("where the byte is", x.where(), before + at);
            }
        }
    }

    /** A text of just so many bytes, blanks ahead of it. */
    private static String padded(String text, int bytes) {
        return " ".repeat(bytes - text.length()) + text;
    }

    /** 900 bytes are taken, and all of them are read. */
    private static void full() {
        for (int bytes : new int[] {900, 899, 881, 880}) {
            RhymeFerry x = new RhymeFerry();
            Check.feed(x, padded(Check.LEAST, bytes));
            CHECK.due("how many", x.size(12), (bytes + 19) / 20 * 20);
            CHECK.answer(x, bytes + " bytes", x.ferry(bytes), 1);
        }
        RhymeFerry x = new RhymeFerry();
        Check.feed(x, padded("ferry", 900));
        CHECK.refused(x, "a fault at the 900th", x.ferry(900), 4);
        CHECK.due("the end's place", x.where(), 900);
        Check.feed(x, padded("!", 900));
        CHECK.refused(x, "the last byte", x.ferry(900), 4);
        CHECK.due("the last byte's place", x.where(), 899);
    }

    /** "NONE, and none comes, if there would be more than 900". */
    private static void fullAndOneMore() {
        RhymeFerry x = new RhymeFerry();
        for (int i = 1; i <= 44; i++) {
            CHECK.due("feed " + i, feed(x, blanks()), 20 * i);
        }
        String end = padded("x", 20);
        Check.feed(x, end);
        CHECK.due("900", x.size(12), 900);
        for (int i = 0; i < 3; i++) {
            CHECK.due("feed 46", x.feed(0, 0, 0, 0, 0), -1);
            CHECK.due("900 still", x.size(12), 900);
            CHECK.due("no trouble by it", x.trouble(), 0);
        }
        CHECK.refused(x, "none of them came", x.ferry(900), 4);
        CHECK.due("none came in place of others", x.where(), 899);
        CHECK.due("from the first byte again", feed(x, blanks()), 20);
    }

    /** Promise 3: "The first n bytes of THE TAPE". */
    private static void howManyBytes() {
        int length = Check.LEAST.length();
        for (int more = 0; more < 3; more++) {
            RhymeFerry x = new RhymeFerry();
            Check.feed(x, Check.LEAST + "  !");
            CHECK.answer(x, "bytes behind are not read", x.ferry(length + more), 1);
        }
        RhymeFerry x = new RhymeFerry();
        Check.feed(x, Check.LEAST + "  !");
        CHECK.refused(x, "the byte is read", x.ferry(length + 3), 4);
        CHECK.due("where it is", x.where(), length + 2);
        Check.feed(x, Check.LEAST);
        CHECK.refused(x, "one fewer", x.ferry(length - 1), 4);
        CHECK.due("the name is not read", x.fault(), 1);
        CHECK.due("the end", x.where(), length - 1);
        Check.feed(x, "ferry ear 2 pairs 1;word w sounds ab price 123;person p plain on near has w");
        CHECK.refused(x, "a price cut short", x.ferry(45), 4);
        CHECK.due("is in bounds", x.fault(), 6);
        CHECK.due("the end", x.where(), 45);
        Check.feed(x, "ferry ear 2 pairs 1;word w sounds ab price 1;person p plain on near has wx");
        CHECK.answer(x, "a name cut short", x.ferry(Check.LEAST.length()), 1);
    }

    /** What is empty: no byte on the tape, no byte of it read. */
    private static void emptyTape() {
        for (int n : new int[] {1, 20, 900, 901, -1, Integer.MIN_VALUE, Integer.MAX_VALUE}) {
            RhymeFerry x = new RhymeFerry();
            CHECK.refused(x, "ferry " + n, x.ferry(n), 2);
            CHECK.due("no fault", x.fault(), 0);
            CHECK.due("no place", x.where(), -1);
        }
        RhymeFerry x = new RhymeFerry();
        CHECK.refused(x, "no byte: a text without a LINE", x.ferry(0), 4);
        CHECK.due("FORM", x.fault(), 1);
        CHECK.due("at the end", x.where(), 0);
        Check.feed(x, Check.LEAST);
        CHECK.refused(x, "no byte of some", x.ferry(0), 4);
        CHECK.due("FORM", x.fault(), 1);
        CHECK.due("at the end", x.where(), 0);
        CHECK.due("the tape is empty", x.size(12), 0);
    }

    /** "(it is empty then)", "NONE: 2 (THE TAPE stays)". */
    private static void tapeStaysOrIsEmpty() {
        int length = Check.LEAST.length();
        RhymeFerry x = new RhymeFerry();
        Check.feed(x, Check.LEAST);
        int fed = x.size(12);
        for (int n : new int[] {fed + 1, -1, 900, 901, Integer.MIN_VALUE, Integer.MAX_VALUE}) {
            CHECK.refused(x, "ferry " + n, x.ferry(n), 2);
            CHECK.due("the tape stays", x.size(12), fed);
        }
        CHECK.answer(x, "and can be read, all of it", x.ferry(fed), 1);
        CHECK.due("it is empty then", x.size(12), 0);
        CHECK.refused(x, "nothing is left", x.ferry(1), 2);
        Check.feed(x, Check.LEAST + ";hour 5 ear 6");
        CHECK.answer(x, "a part of it", x.ferry(length), 1);
        CHECK.due("the rest is gone too", x.size(12), 0);
        CHECK.due("and was not read", x.size(5), 0);
        Check.feed(x, BAD);
        CHECK.refused(x, "a fault", x.ferry(19), 4);
        CHECK.due("it is empty by a fault too", x.size(12), 0);
        Check.feed(x, Check.LEAST);
        CHECK.due("a new text begins", x.size(12), fed);
        CHECK.answer(x, "at the first byte", x.ferry(length), 1);
    }

    /** "4 (the FERRY stays)": with all that was done on it. */
    private static void faultLeavesTheFerry() {
        String[] faulty = {BAD, "", "ferry", "word", Check.LEAST + ";", Check.LEAST + ";hour 24",
            "ferry ear 4 pairs 3;word v sounds cd price 50;word u sounds cd price 50;person q deaf on far has u;alike a b"
                + ";hour 7 ear 1;errand q by 4;knows q v;got q q over"};
        for (String text : faulty) {
            RhymeFerry twin = emptied();
            RhymeFerry x = emptied();
            CHECK.refused(x, text, Check.tell(x, text), 4);
            CHECK.same("as it was", Check.everything(x), Check.everything(twin));
        }
        RhymeFerry x = emptied();
        Check.tell(x, faulty[faulty.length - 1]);
        CHECK.due("its ear at an hour", x.ear(7), 3);
        CHECK.due("its sounds", x.like(0, 1), 3);
        CHECK.due("its names", x.eye(0, 1), 3);
        CHECK.due("who got over", x.heard(), Check.told(Check.FIVE).heard());
    }

    private static RhymeFerry emptied() {
        RhymeFerry x = Check.told(Check.FIVE);
        x.image();
        x.hours(5);
        x.cross(0, 1);
        x.image();
        x.buy(2, 0);
        return x;
    }

    /** "(hour 0, people and words as told, nobody WET, nothing PAID; nothing to undo, no IMAGES)". */
    private static void everythingAnew() {
        RhymeFerry x = emptied();
        CHECK.answer(x, "the same text", Check.tell(x, Check.FIVE), 5);
        CHECK.same("as at first", Check.everything(x), Check.everything(Check.told(Check.FIVE)));
        RhymeFerry y = emptied();
        Check.tell(y, Check.FIVE);
        CHECK.noLed(y, 0);
        CHECK.due("nothing to undo", y.undo(), false);
        CHECK.due("no image", y.back(0), false);
        CHECK.due("the hour", y.size(8), 0);
        CHECK.due("nothing paid", y.size(9), 0);
        RhymeFerry z = Check.busy();
        CHECK.answer(z, "a smaller one", z.ferry(Check.LEAST.length()), 1);
        CHECK.same("as it is told", Check.everything(z), Check.everything(Check.told(Check.LEAST)));
    }

    /** A FERRY is as its own text tells, whatever ferries and faulty texts there were ahead of it. */
    private static void nothingOfFormerFerries() {
        String far = Check.FULL.replace("near", "far").replace("plain", "deaf");
        String eight = Check.FULL + ";knows m b;knows m c;knows m d;knows m e;knows m f;knows m g;knows m h;knows m i";
        String much = "ferry ear 4 pairs 3;word a sounds abcd price 99;word b sounds abed price 0;person p poet on far has a"
            + ";person q child on near has b;alike a b;alike c d;alike c e;alike g h;hour 0 ear 1;hour 1 ear 6;hour 2 ear 5"
            + ";hour 3 ear 4;hour 4 ear 3;hour 5 ear 2;hour 6 ear 1;hour 7 ear 2;errand p by 4;errand q by 1;got p q over"
            + ";got p q back;got p q wet;got p q back;got p q back;got p q wet";
        String[] texts = {Check.LEAST, Check.FIVE, Check.FULL, far, eight, much};
        for (String text : texts) {
            String due = answers(Check.told(text));
            for (String former : texts) {
                RhymeFerry x = Check.told(former);
                Check.tell(x, former + ";got");
                Check.tell(x, former);
                CHECK.due("people", Check.tell(x, text), Check.told(text).size(3));
                CHECK.same("one behind two others", answers(x), due);
                RhymeFerry y = Check.told(text);
                Check.tell(y, former);
                Check.tell(y, text);
                CHECK.same("one again behind another", answers(y), due);
            }
        }
    }

    /** What stands and what follows from what was told. */
    private static String answers(RhymeFerry x) {
        StringBuilder all = new StringBuilder(Check.state(x)).append("ears ");
        for (int hour = 0; hour < 24; hour++) {
            all.append(x.ear(hour)).append(' ');
        }
        for (int p = 0; p < x.size(3); p++) {
            all.append(x.with(p, 0)).append(' ').append(x.partner(p, 1, 0)).append(' ');
        }
        for (int w = 0; w < x.size(2); w++) {
            all.append(x.like(0, w)).append(' ').append(x.eye(0, w)).append(' ');
        }
        int[] more = {x.judge(), x.heard(), x.ask(), x.askLeaves(), x.kept(0), x.pairs(0, 0), x.pairs(1, 0), x.coins(0, 0),
            x.keep(0, 0), x.refrain(0, 0), x.day(0, 5)};
        return all.append(Arrays.toString(more)).toString();
    }

    /** "how many people": 1 at least, 8 at most. */
    private static void howManyPeople() {
        RhymeFerry x = new RhymeFerry();
        CHECK.answer(x, "one", Check.tell(x, Check.LEAST), 1);
        CHECK.answer(x, "eight", Check.tell(x, Check.FULL), 8);
    }

    /** Promise 4: "The FAULT of the latest ferry() not refused by 2; 0 without one." */
    private static void fault() {
        RhymeFerry x = new RhymeFerry();
        x.ferry(1);
        CHECK.due("0 when there was none but by 2", x.fault(), 0);
        Check.tell(x, BAD);
        CHECK.due("4", x.fault(), 4);
        x.ferry(1);
        x.ferry(-1);
        CHECK.due("still, by 2", x.fault(), 4);
        x.ear(0);
        x.undo();
        x.feed(0, 0, 0, 0, 0);
        CHECK.due("still, by other calls", x.fault(), 4);
        x.ferry(20);
        CHECK.due("the latest", x.fault(), 1);
        Check.tell(x, Check.LEAST);
        CHECK.due("0 without one", x.fault(), 0);
        x.ferry(1);
        CHECK.due("0 still", x.fault(), 0);
        Check.tell(x, BAD);
        CHECK.due("4 again", x.fault(), 4);
        x.ear(0);
        CHECK.due("a call that is not refused", x.fault(), 4);
    }

    /** Promise 5: "Its place, if the latest call that may be refused was by 4; NONE else." */
    private static void where() {
        RhymeFerry x = Check.told(Check.LEAST);
        CHECK.due("none", x.where(), -1);
        Check.tell(x, BAD);
        CHECK.due("the place", x.where(), 18);
        CHECK.due("as often as asked", x.where(), 18);
        x.feed(0, 0, 0, 0, 0);
        x.size(99);
        x.fault();
        x.trouble();
        CHECK.noLed(x, 0);
        CHECK.due("by calls that have no number", x.where(), 18);
        for (int i = 0; i < 6; i++) {
            Check.tell(x, Check.LEAST);
            x.feed(0, 0, 0, 0, 0);
            x.ferry(20);
            CHECK.due("a place of 0", x.where(), 0);
            switch (i) {
                case 0: x.ear(0); break;
                case 1: x.ear(24); break;
                case 2: x.undo(); break;
                case 3: x.back(9); break;
                case 4: x.ferry(-1); break;
                default: Check.tell(x, Check.LEAST);
            }
            CHECK.due("NONE behind another call, " + i, x.where(), -1);
        }
    }
}
