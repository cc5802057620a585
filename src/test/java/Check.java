import java.nio.charset.StandardCharsets;
import java.util.NoSuchElementException;

/** What the tests share: due answers, and texts that are fed and read. */
final class Check {
    /** Five people, five words, two hours told, two errands, one that got over. */
    static final String FIVE = "ferry ear 3 pairs 1"
        + ";word smith sounds fabc price 10;word kith sounds dabc price 5"
        + ";word hat sounds bac price 2;word cat sounds eac price 3;word moon sounds gehd price 7"
        + ";person al plain on near has smith;person bo plain on near has hat"
        + ";person cy poet on near has cat;person di deaf on near has kith"
        + ";person ed child on far has moon;knows bo moon;hour 5 ear 2;hour 9 ear 5"
        + ";errand al by 1;errand cy by 2;got al di over";

    private int wrong = 0;
    private int count = 0;

    void due(String what, long got, long want) {
        count++;
        if (got != want) {
            wrong++;
            System.out.println(what + " answered " + got + ", due is " + want);
        }
    }

    void due(String what, boolean got, boolean want) {
        due(what, got ? 1 : 0, want ? 1 : 0);
    }

    /** An answer that is refused, and by which number. */
    void refused(RhymeFerry x, String what, int got, int trouble) {
        due(what, got, RhymeFerry.NONE);
        due(what + ": trouble", x.trouble(), trouble);
    }

    /** An answer that is not refused. */
    void answer(RhymeFerry x, String what, int got, int want) {
        due(what, got, want);
        due(what + ": trouble", x.trouble(), 0);
    }

    void noLed(RhymeFerry x, int i) {
        boolean thrown = false;
        try {
            x.led(i);
        } catch (NoSuchElementException e) {
            thrown = true;
        }
        due("led(" + i + ") throws", thrown, true);
    }

    void fault(String text, int fault, int where) {
        RhymeFerry x = new RhymeFerry();
        String what = "'" + (text.length() > 60 ? ".." + text.substring(text.length() - 60) : text) + "'";
        due(what, tell(x, text), RhymeFerry.NONE);
        due(what + ": trouble", x.trouble(), 4);
        due(what + ": fault", x.fault(), fault);
        due(what + ": where", x.where(), where);
    }

    static RhymeFerry told(String text) {
        RhymeFerry x = new RhymeFerry();
        if (tell(x, text) < 0) {
            throw new IllegalStateException("fault " + x.fault() + " at " + x.where() + ": " + text);
        }
        return x;
    }

    static int tell(RhymeFerry x, String text) {
        feed(x, text);
        return x.ferry(text.length());
    }

    static void feed(RhymeFerry x, String text) {
        byte[] bytes = text.getBytes(StandardCharsets.ISO_8859_1);
        for (int at = 0; at < bytes.length; at += 20) {
            int[] five = new int[5];
            for (int i = 0; i < 20; i++) {
                int b = at + i < bytes.length ? bytes[at + i] & 255 : ' ';
                five[i / 4] = five[i / 4] << 8 | b;
            }
            x.feed(five[0], five[1], five[2], five[3], five[4]);
        }
    }

    void end() {
        System.out.println(count + " answers, " + wrong + " not as due");
        if (wrong != 0) {
            System.exit(1);
        }
    }
}
