import java.nio.charset.StandardCharsets;
import java.util.NoSuchElementException;

/** What the tests share: due answers, and texts that are fed and read. */
final class Check {
    /** Five people, five words, two hours told, two errands, one that got over. */
    static final String FIVE = "ferry ear 3 pairs 1"
        + ";word smith sounds fabc price 10;word kith sounds dabc price 5"
        + ";word hat sounds bac price 2;word cat sounds eac price 3;word moon sounds gehd price 7"
        + ";person al plain on near has smith;person bo plain on near has hat"
        + ";person cy poet on near has cat;person di deaf on near has kith"
        + ";person ed child on far has moon;knows bo moon;hour 5 ear 2;hour 9 ear 5"
        + ";errand al by 1;errand cy by 2;got al di over";

    /** A ferry of one word and one person: the least there is. */
    static final String LEAST = "ferry ear 2 pairs 1;word w sounds ab price 1;person p plain on near has w";

    /** As many words and people as there is room for. */
    static final String FULL = full();

    private int wrong = 0;
    private int count = 0;

    void due(String what, long got, long want) {
        count++;
        if (got != want) {
            wrong++;
            System.out.println(what + " answered " + got + ", due is " + want);
        }
    }

    void due(String what, boolean got, boolean want) {
        due(what, got ? 1 : 0, want ? 1 : 0);
    }

    /** An answer that is refused, and by which number. */
    void refused(RhymeFerry x, String what, int got, int trouble) {
        due(what, got, RhymeFerry.NONE);
        due(what + ": trouble", x.trouble(), trouble);
    }

    /** An answer that is not refused. */
    void answer(RhymeFerry x, String what, int got, int want) {
        due(what, got, want);
        due(what + ": trouble", x.trouble(), 0);
    }

    /** Two texts that must be the same. */
    void same(String what, String got, String want) {
        count++;
        if (!got.equals(want)) {
            wrong++;
            System.out.println(what + ":\n  got " + got + "\n  due " + want);
        }
    }

    void noLed(RhymeFerry x, int i) {
        boolean thrown = false;
        try {
            x.led(i);
        } catch (NoSuchElementException e) {
            thrown = true;
        }
        due("led(" + i + ") throws", thrown, true);
    }

    void fault(String text, int fault, int where) {
        RhymeFerry x = new RhymeFerry();
        String what = "'" + (text.length() > 60 ? ".." + text.substring(text.length() - 60) : text) + "'";
        due(what, tell(x, text), RhymeFerry.NONE);
        due(what + ": trouble", x.trouble(), 4);
        due(what + ": fault", x.fault(), fault);
        due(what + ": where", x.where(), where);
    }

    private static String full() {
        StringBuilder text = new StringBuilder("ferry ear 2 pairs 1");
        for (int i = 0; i < 10; i++) {
            text.append(";word ").append((char) ('a' + i)).append(" sounds ab price ").append(i);
        }
        for (int i = 0; i < 8; i++) {
            text.append(";person ").append((char) ('m' + i)).append(" plain on near has a");
        }
        return text.toString();
    }

    /** FIVE in the midst of things: two wet and over, a word bought, two images, three acts, and LEAST on the tape. */
    static RhymeFerry busy() {
        RhymeFerry x = told(FIVE);
        x.image();
        x.hours(5);
        x.cross(0, 1);
        x.image();
        x.buy(2, 0);
        feed(x, LEAST);
        return x;
    }

    /** All that is told of what stands now, by no call that may change it. */
    static String state(RhymeFerry x) {
        StringBuilder told = new StringBuilder();
        for (int what = 0; what <= 12; what++) {
            told.append(x.size(what)).append(' ');
        }
        for (int w = 0; w < x.size(2); w++) {
            told.append('w').append(x.word(w, 0)).append(' ').append(x.word(w, 1)).append(' ').append(x.word(w, 2)).append(' ');
        }
        for (int p = 0; p < x.size(3); p++) {
            told.append('p');
            for (int what = 0; what <= 4; what++) {
                told.append(x.person(p, what)).append(' ');
            }
        }
        return told.toString();
    }

    /** All that an object holds: what stands, what can be undone, the images, the tape. It is used up by that. */
    static String everything(RhymeFerry x) {
        StringBuilder all = new StringBuilder(state(x));
        for (int i = 0; i < 20 && x.undo(); i++) {
            all.append("undone ").append(state(x));
        }
        for (int image = 0; image < 4 && x.back(image); image++) {
            all.append("image ").append(state(x));
        }
        all.append("tape ").append(x.ferry(x.size(12)));
        return all.append(' ').append(x.fault()).append(' ').append(x.where()).append(' ').append(state(x)).toString();
    }

    static RhymeFerry told(String text) {
        RhymeFerry x = new RhymeFerry();
        if (tell(x, text) < 0) {
            throw new IllegalStateException("fault " + x.fault() + " at " + x.where() + ": " + text);
        }
        return x;
    }

    static int tell(RhymeFerry x, String text) {
        feed(x, text);
        return x.ferry(text.length());
    }

    static void feed(RhymeFerry x, String text) {
        byte[] bytes = text.getBytes(StandardCharsets.ISO_8859_1);
        for (int at = 0; at < bytes.length; at += 20) {
            int[] five = new int[5];
            for (int i = 0; i < 20; i++) {
                int b = at + i < bytes.length ? bytes[at + i] & 255 : ' ';
                five[i / 4] = five[i / 4] << 8 | b;
            }
            x.feed(five[0], five[1], five[2], five[3], five[4]);
        }
    }

    void end() {
        System.out.println(count + " answers, " + wrong + " not as due");
        if (wrong != 0) {
            System.exit(1);
        }
    }
}
