import java.nio.charset.StandardCharsets;

/** The example of README.md, sign for sign; ReadmeTest holds the two together and runs it. */
final class ReadmeExample {
    public static void main(String[] args) {
        RhymeFerry x = new RhymeFerry();
        String text = "ferry ear 2 pairs 1"
            + ";word cat sounds eac price 3;word hat sounds bac price 2;word moon sounds gehd price 7"
            + ";person al plain on near has cat;person bo plain on near has hat"
            + ";person cy plain on near has moon;hour 9 ear 3";
        System.out.println("people " + tell(x, text));

        System.out.println("al and bo rhyme " + x.rhyme(0, 1, 0) + ", at nine " + x.rhyme(0, 1, 9));
        System.out.println("alone " + x.alone(0, 0) + ", cy buys word " + x.cheapest(2, 0));
        System.out.println("over " + x.cross(0, 1) + ", bank of al " + x.person(0, 1));

        System.out.println("al and cy " + x.cross(0, 2) + ", trouble " + x.trouble());
        System.out.println("hour 24 " + x.ear(24) + ", trouble " + x.trouble());
        System.out.println("a ninth person " + x.with(8, 0) + ", trouble " + x.trouble());

        System.out.println("a text " + tell(x, "ferry ear 2 pairs 1;word got") + ", trouble " + x.trouble()
            + ", fault " + x.fault() + " at byte " + x.where() + ", people still " + x.size(3));
    }

    /** Feeds a text, twenty bytes a call, blanks behind its end, and makes a FERRY of it. */
    static int tell(RhymeFerry x, String text) {
        byte[] bytes = text.getBytes(StandardCharsets.US_ASCII);
        for (int at = 0; at < bytes.length; at += 20) {
            int[] five = new int[5];
            for (int i = 0; i < 20; i++) {
                int one = at + i < bytes.length ? bytes[at + i] : ' ';
                five[i / 4] = five[i / 4] << 8 | one; // of each number the highest byte first
            }
            x.feed(five[0], five[1], five[2], five[3], five[4]);
        }
        return x.ferry(bytes.length);
    }
}
