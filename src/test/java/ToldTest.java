/** Promises 44 to 46: who is wet, sizes, trouble. */
final class ToldTest {
    private static final Check CHECK = new Check();

    public static void main(String[] args) {
        led();
        sizes();
        trouble();
        CHECK.end();
    }

    private static void led() {
        RhymeFerry x = new RhymeFerry();
        CHECK.noLed(x, 0);
        Check.tell(x, Check.FIVE);
        CHECK.noLed(x, 0);
        x.buy(3, 2);
        x.buy(1, 0);
        x.hours(9);
        // At 9, of five letters: bo's smith and al's by half.
        CHECK.due("by half", x.cross(0, 1), 1);
        CHECK.due("led 0", x.led(0), 0);
        CHECK.due("led 1", x.led(1), 1);
        for (int no : new int[] {2, -1, Integer.MIN_VALUE, Integer.MAX_VALUE}) {
            CHECK.noLed(x, no);
        }
        x.undo();
        CHECK.noLed(x, 0);
        RhymeFerry y = Check.told("ferry ear 3 pairs 1;word w sounds ab price 0;word v sounds cde price 0"
            + ";person m plain on near has v;person n plain on near has w;person o plain on near has v"
            + ";person p plain on near has w");
        y.cross(3, 1);
        y.cross(0, 2);
        CHECK.due("the first who is wet", y.led(0), 1);
        CHECK.due("the second", y.led(1), 3);
        CHECK.noLed(y, 2);
        Check.tell(y, Check.FIVE);
        CHECK.noLed(y, 0);
    }

    private static void sizes() {
        RhymeFerry x = Check.told(Check.FIVE + ";alike a g;got al bo back");
        x.feed(0, 0, 0, 0, 0);
        int[] sizes = {3, 1, 5, 5, 1, 2, 2, 2, 0, 0, 0, 0, 20};
        for (int what = 0; what < sizes.length; what++) {
            CHECK.due("size " + what, x.size(what), sizes[what]);
        }
        x.hours(7);
        x.buy(0, 3);
        x.image();
        int[] later = {3, 1, 5, 5, 1, 2, 2, 2, 7, 3, 2, 1, 20};
        for (int what = 0; what < later.length; what++) {
            CHECK.due("size " + what, x.size(what), later[what]);
        }
        for (int no : new int[] {-1, 13, Integer.MIN_VALUE, Integer.MAX_VALUE}) {
            CHECK.due("size " + no, x.size(no), -1);
        }
    }

    private static void trouble() {
        RhymeFerry x = new RhymeFerry();
        CHECK.due("none at first", x.trouble(), 0);
        x.hours(1);
        CHECK.due("no ferry", x.trouble(), 1);
        x.size(99);
        x.fault();
        x.where();
        x.trouble();
        CHECK.noLed(x, 0);
        for (int i = 0; i < 50; i++) {
            x.feed(-1, -1, -1, -1, -1);
        }
        CHECK.due("not by calls that have no number", x.trouble(), 1);
        x.ferry(901);
        CHECK.due("a number", x.trouble(), 2);
        x.ferry(900);
        CHECK.due("a fault", x.trouble(), 4);
        Check.tell(x, Check.FIVE);
        CHECK.due("none", x.trouble(), 0);
        x.cross(0, 1);
        CHECK.due("not so", x.trouble(), 5);
        x.meets(0, 1);
        CHECK.due("an answer of -2 is no trouble", x.trouble(), 0);
        x.undo();
        CHECK.due("nothing to undo", x.trouble(), 6);
        for (int i = 0; i < 4; i++) {
            x.image();
        }
        CHECK.due("no room", x.trouble(), 3);
        x.back(0);
        CHECK.due("none", x.trouble(), 0);
    }
}
