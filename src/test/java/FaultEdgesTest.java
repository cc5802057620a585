/** Terms I at its edges: TOKENS, LINES, bounds, as many as there is room for, and FAULTS 1 to 7, each at its place. */
final class FaultEdgesTest {
    private static final Check CHECK = new Check();
    private static final String FERRY = "ferry ear 2 pairs 1";
    private static final String WORDS = FERRY + ";word w sounds ab price 1;word v sounds bc price 0";
    private static final String PEOPLE = WORDS + ";person p plain on near has w;person q deaf on far has v";
    private static final String[] NO_NAMES = {"ferry", "word", "person", "knows", "alike", "hour", "errand", "got"};

    /** A LINE of each sort that may stand behind PEOPLE. */
    private static final String[] LINES = {"word n sounds ab price 5", "person n plain on near has w", "knows p v",
        "alike a b", "hour 5 ear 3", "errand p by 2", "got p q over"};

    public static void main(String[] args) {
        everyByte();
        blanks();
        longTokens();
        formOfTheFerry();
        formOfEveryLine();
        formBehindALine();
        wordsOfTheForm();
        namesThatAreNone();
        notTold();
        toldAgain();
        outOfBounds();
        many();
        room();
        lacks();
        sounds();
        firstFromTheLeft();
        leastOfOnePlace();
        CHECK.end();
    }

    /** The fault of a text with this token behind it; its place is the token's. */
    private static void at(String text, String token, int fault) {
        CHECK.fault(text + token, fault, text.length());
        CHECK.fault(text + token + " ", fault, text.length() + (token.isEmpty() ? 1 : 0));
    }

    private static RhymeFerry fine(String text, int people) {
        RhymeFerry x = new RhymeFerry();
        CHECK.answer(x, "'" + text + "'", Check.tell(x, text), people);
        CHECK.due("no fault", x.fault(), 0);
        return x;
    }

    // ---- TOKENS

    /** FORM: "the first byte that begins no TOKEN": all but blanks, small letters, digits and ; */
    private static void everyByte() {
        for (int b = 0; b < 256; b++) {
            String sign = String.valueOf((char) b);
            if (b == ' ') {
                fine(PEOPLE + sign, 2);
            } else {
                // A ; is well there, but not the end behind it.
                CHECK.fault(PEOPLE + " " + sign, 1, PEOPLE.length() + (b == ';' ? 2 : 1));
            }
            boolean token = b == ' ' || b == ';' || b >= '0' && b <= '9' || b >= 'a' && b <= 'z';
            if (!token) {
                CHECK.fault(sign + PEOPLE, 1, 0);
                CHECK.fault(FERRY + sign + ";word", 1, FERRY.length());
                CHECK.fault("fer" + sign + "ry", 1, 0);
                CHECK.fault("ferry" + sign + "ear 2", 1, 5);
            }
        }
    }

    /** "blanks, 32, part TOKENS and mean nothing else". */
    private static void blanks() {
        fine("   " + PEOPLE.replace(" ", "   ").replace(";", "  ;  ") + "   ", 2);
        RhymeFerry x = fine("ferry ear2pairs3;word w sounds ab price7;person p plain on near has w;hour5ear6;errand p by4", 1);
        CHECK.due("ear", x.size(0), 2);
        CHECK.due("pairs", x.size(1), 3);
        CHECK.due("price", x.word(0, 0), 7);
        CHECK.due("hour", x.ear(5), 6);
        CHECK.due("errand", x.person(0, 4), 4);
        at("", "fer ry ear 2", 1);
        at("ferry ear 2 pairs 1", " 0", 1, 1);
        at("ferry ear 2 ", "pair s 1", 1);
        at("", "ferryear 2 pairs 1", 1);
        at(PEOPLE + ";", "hou r 5", 1);
        at(FERRY + ";word ab", " ab sounds", 1, 1);
    }

    /** As at(), the place so many bytes farther on. */
    private static void at(String text, String token, int fault, int farther) {
        CHECK.fault(text + token, fault, text.length() + farther);
    }

    /** "WORDS of 1 to 8 small letters that stand together, WHOLES of 1 to 3 digits that do". */
    private static void longTokens() {
        fine(FERRY + ";word abcdefgh sounds ab price 1;person zyxwvuts plain on near has abcdefgh", 1);
        fine(FERRY + ";word a sounds ab price 1;person z plain on near has a", 1);
        at(FERRY + ";word ", "abcdefghi sounds ab price 1", 1);
        at(FERRY + ";word ", "abcdefghijklmnopqrstuvwxyz sounds ab price 1", 1);
        at(WORDS + ";person ", "abcdefghi plain", 1);
        at("", "ferryferry", 1);
        RhymeFerry x = fine("ferry ear 005 pairs 01;word w sounds ab price 099;person p plain on near has w;hour 023 ear 006", 1);
        CHECK.due("ear", x.size(0), 5);
        CHECK.due("price", x.word(0, 0), 99);
        CHECK.due("ear 006 at 023", x.ear(23), 6);
        at("ferry ear ", "0005 pairs 1", 1);
        at("ferry ear 5 pairs ", "0001", 1);
        at(FERRY + ";word w sounds ab price ", "0000", 1);
        at(FERRY + ";word w sounds ab price ", "4294967296", 1);
        at(FERRY + ";word w sounds ab price ", "1000", 1);
        at(PEOPLE + ";hour ", "0000 ear 1", 1);
    }

    // ---- FAULT 1

    private static void formOfTheFerry() {
        String[] tokens = FERRY.split(" ");
        form("", tokens);
        for (String other : new String[] {"ferr", "ferrys", "boat", "w", "7", ";", "ear"}) {
            at("", other, 1);
            at("", other + " ear 2 pairs 1", 1);
        }
        at("", "", 1);
    }

    private static void formOfEveryLine() {
        for (String line : LINES) {
            fine(PEOPLE + ";" + line, line.startsWith("person") ? 3 : 2);
            form(PEOPLE + ";", line.split(" "));
        }
    }

    /** Each TOKEN but the first one is left out, or another sort of TOKEN is in its place, or none at all. */
    private static void form(String before, String[] tokens) {
        StringBuilder text = new StringBuilder(before).append(tokens[0]);
        for (int i = 1; i < tokens.length; i++) {
            boolean whole = Character.isDigit(tokens[i].charAt(0));
            CHECK.fault(text.toString(), 1, text.length());
            CHECK.fault(text + "   ", 1, text.length() + 3);
            text.append(' ');
            for (String other : new String[] {";", "!", "A", whole ? "x" : "7", whole ? "0001" : "abcdefghi"}) {
                CHECK.fault(text + other, 1, text.length());
                CHECK.fault(text + other + " " + tokens[i], 1, text.length());
            }
            text.append(tokens[i]);
        }
    }

    /** Behind a LINE there is ; and a LINE, or the end. */
    private static void formBehindALine() {
        for (String line : LINES) {
            String text = PEOPLE + ";" + line;
            for (String other : new String[] {"words", "x", "7", "!"}) {
                at(text + " ", other, 1);
                at(text + ";", other, 1);
            }
            at(text + " ", "word", 1);
            at(text + ";", "", 1);
            at(text + ";", ";", 1);
            at(text + " ; ", "; word", 1);
        }
    }

    private static void wordsOfTheForm() {
        for (String other : new String[] {"ears", "ea", "pairs", "x"}) {
            at("ferry ", other + " 2", 1);
            at(PEOPLE + ";hour 5 ", other + " 3", 1);
        }
        for (String other : new String[] {"pair", "pairss", "ear"}) {
            at("ferry ear 2 ", other + " 1", 1);
        }
        at(FERRY + ";word w ", "sound ab", 1);
        at(FERRY + ";word w sounds ab ", "prices 1", 1);
        for (String other : new String[] {"shy", "plai", "deafs", "near", "poets", "childs", "has"}) {
            at(WORDS + ";person p ", other + " on near has w", 1);
        }
        at(WORDS + ";person p plain ", "in near has w", 1);
        for (String other : new String[] {"mid", "nea", "fars", "plain", "w"}) {
            at(WORDS + ";person p plain on ", other + " has w", 1);
        }
        at(WORDS + ";person p plain on far ", "knows w", 1);
        at(PEOPLE + ";errand p ", "at 1", 1);
        for (String other : new String[] {"dry", "ove", "overs", "wets", "backs", "p"}) {
            at(PEOPLE + ";got p q ", other, 1);
        }
        for (String kind : new String[] {"plain", "deaf", "child", "poet"}) {
            fine(WORDS + ";person p " + kind + " on near has w;person q " + kind + " on far has v", 2);
        }
        for (String answer : new String[] {"over", "wet", "back"}) {
            fine(PEOPLE + ";got p q " + answer, 2);
        }
    }

    // ---- NAMES

    /** "NAMES are WORDS but ferry, word, ..": such a TOKEN is FORM, wherever a NAME must stand. */
    private static void namesThatAreNone() {
        for (String none : NO_NAMES) {
            at(FERRY + ";word ", none + " sounds ab price 1", 1);
            at(WORDS + ";person ", none + " plain on near has w", 1);
            at(WORDS + ";person p plain on near has ", none, 1);
            at(PEOPLE + ";knows ", none + " v", 1);
            at(PEOPLE + ";knows p ", none, 1);
            at(PEOPLE + ";errand ", none + " by 1", 1);
            at(PEOPLE + ";got ", none + " q over", 1);
            at(PEOPLE + ";got p ", none + " over", 1);
            String near = none + "x";
            fine(FERRY + ";word " + near + " sounds ab price 1;person " + none.substring(1) + " plain on near has " + near, 1);
        }
        for (String name : new String[] {"ear", "pairs", "sounds", "price", "plain", "deaf", "child", "poet", "on", "near",
            "far", "has", "by", "over", "wet", "back", "a"}) {
            fine(FERRY + ";word " + name + " sounds ab price 1;person pp plain on near has " + name, 1);
            fine(FERRY + ";word ww sounds ab price 1;word vv sounds ab price 1;person " + name + " poet on far has ww;knows "
                + name + " vv;errand " + name + " by 1", 1);
        }
    }

    /** 2: "a NAME that isn't told, or is of another sort than must stand there; at it". */
    private static void notTold() {
        for (String name : new String[] {"z", "p", "q", "ww", "plain"}) {
            at(PEOPLE + ";person n plain on near has ", name, 2);
            at(PEOPLE + ";knows q ", name, 2);
        }
        for (String name : new String[] {"z", "w", "v", "pp", "plain"}) {
            at(PEOPLE + ";knows ", name + " v", 2);
            at(PEOPLE + ";errand ", name + " by 1", 2);
            at(PEOPLE + ";got ", name + " q over", 2);
            at(PEOPLE + ";got p ", name + " over", 2);
        }
        at(PEOPLE + ";person n plain on near has ", "n", 2);
        at(FERRY + ";person p plain on near has ", "w;word w sounds ab price 1", 2);
        at(WORDS + ";knows ", "p v;person p plain on near has w", 2);
        at(WORDS + ";errand ", "p by 1;person p plain on near has w", 2);
        at(WORDS + ";got ", "p q over", 2);
        at(WORDS + ";person p plain on near has w;got p ", "q over;person q plain on near has w", 2);
        at(WORDS + ";person p plain on near has w;knows p ", "u;word u sounds ab price 1", 2);
    }

    /** 3: all that is told again. */
    private static void toldAgain() {
        for (String name : new String[] {"w", "v", "p", "q"}) {
            at(PEOPLE + ";word ", name + " sounds ab price 1", 3);
            at(PEOPLE + ";person ", name + " plain on near has w", 3);
        }
        at(PEOPLE + ";knows p ", "w", 3);
        at(PEOPLE + ";knows q ", "v", 3);
        at(PEOPLE + ";knows p v;knows p ", "v", 3);
        fine(PEOPLE + ";knows p v;knows q w", 2);
        for (String letter : new String[] {"a", "h"}) {
            at(PEOPLE + ";alike " + letter + " ", letter, 3);
        }
        at(PEOPLE + ";alike a h;alike a ", "h", 3);
        at(PEOPLE + ";alike a h;alike h ", "a", 3);
        at(PEOPLE + ";alike h a;alike a ", "h", 3);
        fine(PEOPLE + ";alike a b;alike b c;alike a c;alike h g", 2);
        for (String hour : new String[] {"0", "23", "00", "023"}) {
            at(PEOPLE + ";hour 0 ear 2;hour 23 ear 2;hour ", hour + " ear 3", 3);
        }
        fine(PEOPLE + ";hour 0 ear 2;hour 23 ear 2;hour 22 ear 2;hour 1 ear 2", 2);
        at(PEOPLE + ";errand p by 1;errand ", "p by 2", 3);
        at(PEOPLE + ";errand q by 1;errand p by 1;errand ", "q by 1", 3);
        at(PEOPLE + ";got p ", "p over", 3);
        at(PEOPLE + ";got q ", "q over", 3);
        fine(PEOPLE + ";got p q over;got p q over;got q p over;got p q wet", 2);
        at(FERRY + ";", "ferry", 3);
        at(FERRY + ";", FERRY, 3);
        at(PEOPLE + ";", "ferry ear 9 pairs 9", 3);
    }

    // ---- FAULTS 4, 5

    /** 4: "a WHOLE out of bounds; at it": the least and the greatest are in them. */
    private static void outOfBounds() {
        bounds("ferry ear ", 2, 5, " pairs 1" + PEOPLE.substring(FERRY.length()));
        bounds("ferry ear 2 pairs ", 1, 3, PEOPLE.substring(FERRY.length()));
        bounds(PEOPLE + ";word n sounds ab price ", 0, 99, "");
        bounds(PEOPLE + ";hour ", 0, 23, " ear 1");
        bounds(PEOPLE + ";hour 5 ear ", 1, 6, "");
        bounds(PEOPLE + ";errand p by ", 1, 4, "");
    }

    private static void bounds(String before, int least, int most, String behind) {
        fine(before + least + behind, 2);
        fine(before + most + behind, 2);
        if (least > 0) {
            at(before, least - 1 + behind, 4);
            at(before, "0" + behind, 4);
            at(before, "000" + behind, 4);
        }
        at(before, most + 1 + behind, 4);
        at(before, "999" + behind, 4);
    }

    private static String lines(String... lines) {
        return ";" + String.join(";", lines);
    }

    /** 5: "a LINE more of its sort than there is room for, at its first WORD". */
    private static void many() {
        String people = Check.FULL;
        at(people + ";", "word z sounds ab price 1", 5);
        at(people + ";", "person z plain on near has a", 5);
        String[] knows = new String[8];
        String[] hours = new String[8];
        String[] gots = new String[6];
        for (int i = 0; i < 8; i++) {
            knows[i] = "knows " + (char) ('m' + i) + " b";
            hours[i] = "hour " + i + " ear 1";
            gots[i % 6] = "got m n over";
        }
        String small = PEOPLE.replace(";word v", ";word a sounds ab price 1;word b sounds ab price 1;word v");
        at(people + lines(knows) + ";", "knows m c", 5);
        fine(people + lines(knows), 8);
        at(small + lines(hours) + ";", "hour 9 ear 1", 5);
        CHECK.due("eight hours", fine(small + lines(hours), 2).size(5), 8);
        String six = small + lines(gots).replace("got m n", "got p q");
        at(six + ";", "got p q wet", 5);
        CHECK.due("six got", fine(six, 2).size(7), 6);
        String four = small + ";alike a b;alike a c;alike a d;alike a e";
        at(four + ";", "alike a f", 5);
        CHECK.due("four alike", fine(four, 2).size(4), 4);
        at(four + lines(hours) + ";", "alike f g", 5);
        at(people + lines(knows) + ";", "word", 5);
        at(people + lines(knows) + ";", "person", 5);
    }

    /** As many as there is room for are all there, each with what it tells. */
    private static void room() {
        RhymeFerry x = fine(Check.FULL, 8);
        CHECK.due("words", x.size(2), 10);
        CHECK.due("the tenth word's price", x.word(9, 0), 9);
        CHECK.due("who has the first word", x.word(0, 2), 255);
        StringBuilder text = new StringBuilder(Check.FULL);
        for (int i = 0; i < 8; i++) {
            text.append(";errand ").append((char) ('m' + i)).append(" by ").append(1 + i % 4);
        }
        RhymeFerry y = fine(text.toString(), 8);
        CHECK.due("errands", y.size(6), 8);
        CHECK.due("the eighth errand", y.person(7, 4), 4);
        at(text + ";errand ", "t by 1", 3);
        StringBuilder knows = new StringBuilder(Check.FULL);
        for (int i = 1; i <= 8; i++) {
            knows.append(";knows t ").append((char) ('a' + i));
        }
        CHECK.due("one person knows eight more", fine(knows.toString(), 8).person(7, 2), 511);
    }

    // ---- FAULTS 6, 7

    /** 6: "any LINE ahead of the ferry; at its WORD; at the end: no word, no person". */
    private static void lacks() {
        for (String line : LINES) {
            at("", line, 6);
            at("   ", line + ";" + FERRY, 6);
            at("", line.substring(0, line.indexOf(' ')), 6);
        }
        at(FERRY, "", 6);
        at(WORDS, "", 6);
        at(FERRY + ";alike a b;hour 1 ear 1", "", 6);
        at(WORDS + "  ", "", 6);
        fine(FERRY + ";alike a b;hour 1 ear 1;word w sounds ab price 1;hour 2 ear 1;person p plain on near has w", 1);
    }

    /** 7: "a WORD that isn't of such letters, so many; a LETTER that is none; at it". */
    private static void sounds() {
        for (String good : new String[] {"aa", "hh", "abcdef", "hgfedc", "ah", "ha"}) {
            fine(FERRY + ";word w sounds " + good + " price 1;person p plain on near has w", 1);
        }
        for (String bad : new String[] {"a", "h", "abcdefg", "abcdefgh", "ai", "ia", "aia", "abcdei", "iabcde", "zz", "got",
            "w", "sounds", "price"}) {
            at(FERRY + ";word w sounds ", bad + " price 1", 7);
        }
        for (String bad : new String[] {"i", "z", "aa", "ab", "got", "abcdefgh", "p", "alike"}) {
            at(PEOPLE + ";alike ", bad + " b", 7);
            at(PEOPLE + ";alike b ", bad, 7);
        }
        fine(PEOPLE + ";alike a h", 2);
        fine(PEOPLE + ";alike h a", 2);
    }

    // ---- which FAULT it is

    /** "the first that is met from the left", whatever its number. */
    private static void firstFromTheLeft() {
        String[] before = {PEOPLE + ";hour ", PEOPLE + ";knows ", PEOPLE + ";got p ", PEOPLE + ";errand p by ",
            Check.FULL + ";", "", PEOPLE + ";alike "};
        String[] token = {"x", "z", "p", "9", "word", "word", "i"};
        String[] behind = {" ear 9", " z", " dry", ";hour 99", " got sounds abcdefghi price 100", " ferry sounds x", " i !"};
        for (int i = 0; i < before.length; i++) {
            for (String more : new String[] {behind[i], "!", " !", ";", ";ferry", ";;", " 9999", ";word w sounds x price 999"}) {
                at(before[i], token[i] + more, i + 1);
            }
        }
        at("ferry ear ", "9 pairs 9", 4);
        at("ferry ear ", "9!", 4);
        at(FERRY + ";word w sounds ", "i price 100", 7);
        at(PEOPLE + ";person ", "p shy on mid has z", 3);
        at(PEOPLE + ";person n ", "shy on mid has z", 1);
        at(PEOPLE + ";person n plain on near has ", "z!", 2);
    }

    /** "of one place the least number". */
    private static void leastOfOnePlace() {
        // 1 and 6: the text ends where it can't, and there is nobody.
        at(FERRY + ";", "", 1);
        at(WORDS + ";person", "", 1);
        at("", "", 1);
        // 1 and 6: a WORD that begins no LINE, ahead of the ferry.
        at("", "words", 1);
        // 1 and 2: no NAME at all, so none that is told.
        at(PEOPLE + ";knows ", "got", 1);
        at(PEOPLE + ";knows ", "123456789", 1);
        at(PEOPLE + ";knows ", "abcdefghi", 1);
        // 1 and 4: no WHOLE, so none out of bounds.
        at(PEOPLE + ";hour ", "9999 ear 1", 1);
        // 1 and 5: no LINE, so none too many.
        at(Check.FULL + ";", "wordy", 1);
        // 1 and 7: no WORD, so no sounds.
        at(FERRY + ";word w sounds ", "abcdefghi price 1", 1);
        at(PEOPLE + ";alike ", "abcdefghi", 1);
        at(PEOPLE + ";alike a ", "1", 1);
        // 2 and 3: a NAME of another sort, told again as the second PERSON.
        at(PEOPLE + ";got ", "w w over", 2);
        at(PEOPLE + ";knows p ", "p", 2);
        // 3 and 5: a second ferry is one more than there is room for.
        at(PEOPLE + ";", "ferry", 3);
        // 3 and 6: a second ferry at the end, and nobody.
        at(FERRY + ";", "ferry", 3);
    }
}
