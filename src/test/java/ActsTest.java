/** Promises 38 to 43: crossing, buying, hours, undoing, images. */
final class ActsTest {
    private static final Check CHECK = new Check();

    public static void main(String[] args) {
        cross();
        buy();
        hours();
        undo();
        sixteen();
        images();
        wrongInputs();
        CHECK.end();
    }

    private static void cross() {
        RhymeFerry x = Check.told(Check.FIVE);
        CHECK.refused(x, "no rhyme", x.cross(0, 1), 5);
        CHECK.refused(x, "two banks", x.cross(0, 4), 5);
        CHECK.due("nobody has crossed", x.size(10), 0);
        CHECK.answer(x, "fully", x.cross(3, 0), 2);
        CHECK.due("over", x.person(0, 1), 1);
        CHECK.due("over", x.person(3, 1), 1);
        CHECK.due("dry", x.person(0, 3), 0);
        CHECK.answer(x, "back with a child", x.cross(4, 0), 2);
        CHECK.due("back", x.person(4, 1), 0);
        x.hours(5);
        CHECK.answer(x, "by half", x.cross(0, 1), 1);
        CHECK.answer(x, "by half again", x.cross(1, 0), 1);
        CHECK.due("wet twice", x.person(0, 3), 2);
        CHECK.due("wet twice", x.person(1, 3), 2);
        CHECK.due("dry", x.person(2, 3), 0);
        x.hours(4);
        CHECK.refused(x, "at the hour now", x.cross(0, 1), 5);
        x.buy(1, 0);
        CHECK.answer(x, "by a word bought", x.cross(0, 1), 1);
    }

    private static void buy() {
        RhymeFerry x = Check.told(Check.FIVE);
        CHECK.refused(x, "he has it", x.buy(0, 0), 5);
        CHECK.refused(x, "he knows it", x.buy(1, 4), 5);
        CHECK.answer(x, "buy", x.buy(0, 1), 5);
        CHECK.answer(x, "buy", x.buy(4, 0), 15);
        CHECK.refused(x, "he has bought it", x.buy(0, 1), 5);
        CHECK.due("words now", x.person(0, 2), 3);
        CHECK.due("paid", x.size(9), 15);
        CHECK.due("acts", x.size(10), 2);
        CHECK.answer(x, "for nothing", Check.told("ferry ear 2 pairs 1;word a sounds ab price 0"
            + ";word b sounds ab price 0;person p plain on near has a").buy(0, 1), 0);
    }

    private static void hours() {
        RhymeFerry x = Check.told(Check.FIVE);
        CHECK.answer(x, "hours", x.hours(23), 23);
        CHECK.answer(x, "behind 23 comes 0", x.hours(1), 0);
        CHECK.answer(x, "hours", x.hours(20), 20);
        CHECK.answer(x, "hours", x.hours(23), 19);
        CHECK.due("now", x.size(8), 19);
    }

    private static void undo() {
        RhymeFerry x = Check.told(Check.FIVE);
        CHECK.due("nothing to undo", x.undo(), false);
        CHECK.due("trouble", x.trouble(), 6);
        x.hours(5);
        x.cross(0, 1);
        x.buy(0, 4);
        x.cross(0, 4);
        CHECK.due("undo cross", x.undo(), true);
        CHECK.due("trouble", x.trouble(), 0);
        CHECK.due("there again", x.person(0, 1), 1);
        CHECK.due("there again", x.person(4, 1), 1);
        CHECK.due("not over", x.person(2, 1), 0);
        CHECK.due("all is as it was", x.word(4, 2), 19);
        CHECK.due("undo buy", x.undo(), true);
        CHECK.due("not paid", x.size(9), 0);
        CHECK.due("not bought", x.person(0, 2), 1);
        CHECK.due("undo cross by half", x.undo(), true);
        CHECK.due("not wet", x.person(0, 3), 0);
        CHECK.due("not over", x.person(0, 1), 0);
        CHECK.due("not over", x.person(1, 1), 0);
        CHECK.due("over as ever", x.person(4, 1), 1);
        CHECK.due("undo hours", x.undo(), true);
        CHECK.due("the hour", x.size(8), 0);
        CHECK.due("no more", x.undo(), false);
        x.cross(0, 1);
        CHECK.due("what is refused is no act", x.size(10), 0);
    }

    private static void sixteen() {
        RhymeFerry x = Check.told(Check.FIVE);
        for (int i = 1; i <= 20; i++) {
            x.hours(1);
            CHECK.due("acts kept", x.size(10), Math.min(i, 16));
        }
        for (int i = 1; i <= 16; i++) {
            CHECK.due("undo " + i, x.undo(), true);
            CHECK.due("hour", x.size(8), 20 - i);
            CHECK.due("acts left", x.size(10), 16 - i);
        }
        CHECK.due("the oldest are gone", x.undo(), false);
        CHECK.due("hour", x.size(8), 4);
        x.hours(3);
        CHECK.due("on from here", x.undo(), true);
        CHECK.due("hour", x.size(8), 4);
    }

    private static void images() {
        RhymeFerry x = Check.told(Check.FIVE);
        CHECK.due("none yet", x.back(0), false);
        CHECK.due("trouble", x.trouble(), 1);
        CHECK.answer(x, "image", x.image(), 0);
        x.hours(5);
        x.cross(0, 1);
        x.buy(2, 0);
        CHECK.answer(x, "image", x.image(), 1);
        CHECK.due("an image is no act", x.size(10), 3);
        x.hours(1);
        x.cross(2, 3);
        CHECK.due("back", x.back(1), true);
        CHECK.due("trouble", x.trouble(), 0);
        CHECK.due("hour", x.size(8), 5);
        CHECK.due("wet", x.person(1, 3), 1);
        CHECK.due("bank", x.person(0, 1), 1);
        CHECK.due("bank", x.person(1, 1), 1);
        CHECK.due("bank", x.person(2, 1), 0);
        CHECK.due("bank", x.person(3, 1), 0);
        CHECK.due("bank", x.person(4, 1), 1);
        CHECK.due("words", x.person(2, 2), 9);
        CHECK.due("paid", x.size(9), 10);
        CHECK.due("nothing to undo", x.size(10), 0);
        CHECK.due("nothing to undo", x.undo(), false);
        CHECK.due("back to the first", x.back(0), true);
        CHECK.due("hour", x.size(8), 0);
        CHECK.due("dry", x.person(1, 3), 0);
        CHECK.due("paid", x.size(9), 0);
        CHECK.due("images stay", x.size(11), 2);
        CHECK.answer(x, "image", x.image(), 2);
        CHECK.refused(x, "no room", x.image(), 3);
        CHECK.due("and on again", x.back(1), true);
        CHECK.due("hour", x.size(8), 5);
        x.hours(1);
        CHECK.due("back twice", x.back(1), true);
        CHECK.due("hour", x.size(8), 5);
        Check.tell(x, Check.FIVE);
        CHECK.due("a new ferry has none", x.back(0), false);
    }

    private static void wrongInputs() {
        RhymeFerry x = Check.told(Check.FIVE);
        x.image();
        for (int no : new int[] {-1, 5, Integer.MIN_VALUE, Integer.MAX_VALUE}) {
            CHECK.refused(x, "cross", x.cross(no, 0), 1);
            CHECK.refused(x, "cross", x.cross(0, no), 1);
            CHECK.refused(x, "buy", x.buy(no, 0), 1);
            CHECK.refused(x, "buy", x.buy(0, no), 1);
            CHECK.due("back", x.back(no), false);
            CHECK.due("trouble", x.trouble(), 1);
        }
        CHECK.refused(x, "cross with himself", x.cross(2, 2), 1);
        for (int no : new int[] {-1, 0, 24, Integer.MIN_VALUE, Integer.MAX_VALUE}) {
            CHECK.refused(x, "hours", x.hours(no), 2);
        }
        CHECK.due("back to one not taken", x.back(1), false);
        RhymeFerry none = new RhymeFerry();
        CHECK.refused(none, "hours", none.hours(0), 1);
        CHECK.refused(none, "image", none.image(), 1);
        CHECK.refused(none, "cross", none.cross(0, 1), 1);
        CHECK.refused(none, "buy", none.buy(0, 0), 1);
        CHECK.due("undo", none.undo(), false);
        CHECK.due("trouble", none.trouble(), 6);
        CHECK.due("back", none.back(0), false);
        CHECK.due("trouble", none.trouble(), 1);
    }
}
