/** Promises 29 to 32: what ear the ferryman has, and which two tell most. */
final class HearingTest {
    private static final Check CHECK = new Check();
    private static final String THREE = "ferry ear 2 pairs 1;word a sounds abcdef price 1"
        + ";word b sounds ebcdef price 2;word c sounds eeedef price 3;word d sounds hh price 4"
        + ";person m plain on near has a;person n plain on far has b;person o plain on near has c";

    public static void main(String[] args) {
        heard();
        ask();
        wrongInputs();
        CHECK.end();
    }

    private static void heard() {
        RhymeFerry x = Check.told(THREE);
        CHECK.answer(x, "nothing got: all ears", x.heard(), 6);
        CHECK.answer(x, "the least", x.heardEar(false), 1);
        CHECK.answer(x, "the greatest", x.heardEar(true), 6);
        ears(THREE + ";got m n over", 5, 1, 5);
        ears(THREE + ";got m n wet", 1, 6, 6);
        ears(THREE + ";got o m over;got m n over", 3, 1, 3);
        ears(THREE + ";got o m back", 2, 5, 6);
        ears(THREE + ";got o m back;got n m over", 1, 5, 5);
        ears(THREE + ";got o m wet", 1, 4, 4);
        ears(THREE + ";got o m over;got o m back", 0, -2, -2);
        RhymeFerry y = Check.told(THREE + ";got o m wet");
        y.buy(2, 1);
        CHECK.answer(y, "by words now", y.heardEar(true), 6);
        y.hours(4);
        y.cross(0, 2);
        CHECK.answer(y, "whatever hour and bank", y.heard(), 1);
    }

    private static void ears(String text, int count, int least, int greatest) {
        RhymeFerry x = Check.told(text);
        CHECK.answer(x, "heard", x.heard(), count);
        CHECK.answer(x, "least", x.heardEar(false), least);
        CHECK.answer(x, "greatest", x.heardEar(true), greatest);
    }

    private static void ask() {
        RhymeFerry x = Check.told(THREE);
        CHECK.answer(x, "by three letters: 3, 1, 2", x.ask(), 2);
        CHECK.answer(x, "at most three are left", x.askLeaves(), 3);
        x.buy(1, 3);
        x.buy(2, 3);
        CHECK.answer(x, "the first of like ones", x.ask(), 2);
        CHECK.answer(x, "askLeaves as the first call", Check.told(THREE).askLeaves(), 3);
        asks(THREE + ";got m n over", 2, 3);
        asks(THREE + ";got o m over;got m n over", 1, 3);
        asks(THREE + ";got o m back", 1, 1);
        asks(THREE + ";got m n wet", 1, 1);
        asks(THREE + ";got o m over;got o m back", -2, -2);
        asks("ferry ear 2 pairs 1;word a sounds ab price 1;person m plain on near has a", -2, -2);
        asks("ferry ear 2 pairs 1;word a sounds ab price 1;word b sounds abcd price 1;person m child on near has a"
            + ";person n poet on near has b;person o plain on far has b", 12, 5);
    }

    private static void asks(String text, int two, int left) {
        RhymeFerry x = Check.told(text);
        CHECK.answer(x, "ask", x.ask(), two);
        CHECK.answer(x, "askLeaves", x.askLeaves(), left);
    }

    private static void wrongInputs() {
        RhymeFerry x = new RhymeFerry();
        CHECK.refused(x, "heard", x.heard(), 1);
        CHECK.refused(x, "heardEar", x.heardEar(true), 1);
        CHECK.refused(x, "heardEar", x.heardEar(false), 1);
        CHECK.refused(x, "ask", x.ask(), 1);
        CHECK.refused(x, "askLeaves", x.askLeaves(), 1);
    }
}
