import java.lang.reflect.InvocationTargetException;
import java.lang.reflect.Method;
import java.util.Arrays;
import java.util.List;

/**
 * Every call that may be refused: the least and the greatest number that each place takes, the next one
 * on either side, by which TROUBLE that is refused, and that nothing is changed by it.
 */
final class RefusalsTest {
    private static final Check CHECK = new Check();
    private static final int WORDS = -100;
    private static final int PEOPLE = -101;

    /** A place of a call: the least and the greatest number it takes, and the TROUBLE beyond. */
    private record Place(int least, int most, int trouble) { }

    private record Face(String name, int[] usual, Place... places) { }

    private static final Place WORD = new Place(0, WORDS, 1);
    private static final Place PERSON = new Place(0, PEOPLE, 1);
    private static final Place BANK = new Place(0, 1, 1);
    private static final Place HOUR = new Place(0, 23, 2);
    private static final Place PRICE = new Place(0, 9, 2);
    private static final Place SEED = new Place(0, 65536, 2);
    private static final Place DAY = new Place(0, 24, 2);

    private static final Face[] CALLS = {
        face("word", WORD, new Place(0, 2, 1)), face("like", WORD, WORD), face("eye", WORD, WORD),
        face("person", PERSON, new Place(0, 4, 1)), face("ear", HOUR), face("rhyme", PERSON, PERSON, HOUR),
        face("with", PERSON, HOUR), face("bestHour", PERSON), face("classOf", PERSON, HOUR), face("classes", HOUR),
        face("bestName", PERSON, HOUR), face("renamed", PERSON, WORD, HOUR), face("meets", PERSON, PERSON),
        face("often", PERSON, PERSON), face("cheapest", PERSON, HOUR), face("pairs", BANK, HOUR),
        face("partner", PERSON, BANK, HOUR), face("alone", BANK, HOUR), face("kept", HOUR), face("judge"),
        face("coins", BANK, HOUR), face("keep", BANK, HOUR), face("refrain", BANK, HOUR), face("heard"),
        face("ask"), face("askLeaves"), face("sells", WORD, PRICE, WORD, PRICE, HOUR),
        face("rests", WORD, WORD, HOUR), face("rest", WORD, WORD, HOUR), face("day", SEED, DAY),
        face("crossedIn", PERSON, SEED, DAY), face("heardEar"), face("cross", PERSON, PERSON),
        face("buy", PERSON, WORD), face("hours", new Place(1, 23, 2)), face("image"), face("back", new Place(0, 1, 1))};

    public static void main(String[] args) {
        checkAll();
        likeNumbers();
        noFerry();
        oneBeforeTwo();
        nothingChanges();
        askingChangesNothing();
        leastAndFull();
        CHECK.end();
    }

    private static Face face(String name, Place... places) {
        int[] usual = new int[places.length];
        for (int i = 0; i < usual.length; i++) {
            // The second of two people or words is another one than the first.
            usual[i] = places[i].least + (places[i] == WORD && i == 2 || places[i].most < 0 && i == 1 ? 1 : 0);
        }
        return new Face(name, usual, places);
    }

    private static Method method(String name) {
        for (Method method : RhymeFerry.class.getDeclaredMethods()) {
            if (method.getName().equals(name)) {
                return method;
            }
        }
        throw new IllegalStateException(name);
    }

    /** Calls with these numbers; a place for a boolean behind them is false. */
    private static int call(RhymeFerry x, String name, int... numbers) {
        Method method = method(name);
        Object[] values = new Object[method.getParameterCount()];
        for (int i = 0; i < values.length; i++) {
            values[i] = i < numbers.length ? (Object) numbers[i] : (Object) false;
        }
        try {
            Object answer = method.invoke(x, values);
            // A false is told like NONE: refused.
            return answer instanceof Integer number ? number : (Boolean) answer ? 1 : -1;
        } catch (IllegalAccessException | InvocationTargetException e) {
            throw new IllegalStateException(name + Arrays.toString(numbers), e);
        }
    }

    private static int[] with(int[] numbers, int place, int number) {
        int[] other = numbers.clone();
        other[place] = number;
        return other;
    }

    private static int mostOf(Place place, int words, int people) {
        return place.most == WORDS ? words - 1 : place.most == PEOPLE ? people - 1 : place.most;
    }

    private static void checkAll() {
        for (Face face : CALLS) {
            for (int i = 0; i < face.places.length; i++) {
                int most = mostOf(face.places[i], 5, 5);
                taken(Check.busy(), face.name, with(face.usual, i, face.places[i].least));
                taken(Check.busy(), face.name, with(face.usual, i, most));
                for (int no : new int[] {face.places[i].least - 1, most + 1, Integer.MIN_VALUE, Integer.MAX_VALUE}) {
                    refusedBy(Check.busy(), face.places[i].trouble, face.name, with(face.usual, i, no));
                }
            }
        }
    }

    /** By these numbers nothing is refused; whether it is so (5), or there is room (3), is another matter. */
    private static void taken(RhymeFerry x, String name, int... numbers) {
        boolean alike = numbers.length > 1 && numbers[0] == numbers[1];
        if (alike && List.of("rhyme", "meets", "often", "cross", "rests", "rest").contains(name)) {
            return;
        }
        if (name.equals("sells") && numbers[0] == numbers[2]) {
            return;
        }
        int got = call(x, name, numbers);
        String what = name + Arrays.toString(numbers);
        int trouble = x.trouble();
        CHECK.due(what + ": trouble " + trouble, trouble == 0 || trouble == 5, true);
        CHECK.due(what + ": NONE", got == -1, trouble == 5);
        CHECK.due(what + ": where", x.where(), -1);
    }

    private static void refusedBy(RhymeFerry x, int trouble, String name, int... numbers) {
        String what = name + Arrays.toString(numbers);
        CHECK.refused(x, what, call(x, name, numbers), trouble);
        CHECK.due(what + ": where", x.where(), -1);
        CHECK.due(what + ": fault", x.fault(), 0);
    }

    /** "NONE: 1 (unlike)", "1 (unlike words)". */
    private static void likeNumbers() {
        for (int i = 0; i < 5; i++) {
            refusedBy(Check.busy(), 1, "rhyme", i, i, 0);
            refusedBy(Check.busy(), 1, "meets", i, i);
            refusedBy(Check.busy(), 1, "often", i, i);
            refusedBy(Check.busy(), 1, "cross", i, i);
            refusedBy(Check.busy(), 1, "sells", i, 0, i, 0, 0);
            refusedBy(Check.busy(), 1, "rests", i, i, 0);
            refusedBy(Check.busy(), 1, "rest", i, i, 0);
            RhymeFerry x = Check.busy();
            CHECK.answer(x, "like of a word with itself", x.like(i, i), x.word(i, 1));
            CHECK.due("eye of a word with itself", x.eye(i, i) > 0, true);
        }
    }

    /** Without a FERRY all but undo() (6) and ferry() (2, 4) are refused by 1, whatever the numbers. */
    private static void noFerry() {
        for (Face face : CALLS) {
            refusedBy(new RhymeFerry(), 1, face.name, face.usual);
            int[] wild = face.usual.clone();
            Arrays.fill(wild, 99999);
            refusedBy(new RhymeFerry(), 1, face.name, wild);
            RhymeFerry x = new RhymeFerry();
            Check.feed(x, Check.LEAST);
            call(x, face.name, face.usual);
            CHECK.due(face.name + ": the tape is there", x.ferry(Check.LEAST.length()), 1);
        }
        RhymeFerry x = new RhymeFerry();
        CHECK.due("undo", x.undo(), false);
        CHECK.due("undo: trouble", x.trouble(), 6);
        CHECK.refused(x, "ferry", x.ferry(1), 2);
        CHECK.noLed(x, 0);
        CHECK.refused(x, "ferry", Check.tell(x, "ferry"), 4);
        CHECK.refused(x, "a fault makes no FERRY", x.image(), 1);
        CHECK.due("people", x.size(3), 0);
    }

    /** Where 1 and 2 are both true 1 is told. */
    private static void oneBeforeTwo() {
        for (Face face : CALLS) {
            for (int i = 0; i < face.places.length; i++) {
                for (int k = 0; k < face.places.length; k++) {
                    if (face.places[i].trouble == 1 && face.places[k].trouble == 2) {
                        refusedBy(Check.busy(), 1, face.name, with(with(face.usual, i, -1), k, -1));
                    }
                }
            }
        }
    }

    /** What is refused changes nothing: what stands, what can be undone, the images and the tape. */
    private static void nothingChanges() {
        String due = Check.everything(Check.busy());
        for (Face face : CALLS) {
            for (int i = 0; i < face.places.length; i++) {
                RhymeFerry x = Check.busy();
                refusedBy(x, face.places[i].trouble, face.name, with(face.usual, i, -1));
                CHECK.same(face.name + " refused", Check.everything(x), due);
            }
        }
        for (int[] two : new int[][] {{0, 2}, {2, 0}, {2, 4}, {1, 3}}) {
            RhymeFerry x = Check.busy();
            refusedBy(x, 5, "cross", two);
            CHECK.same("cross on two banks", Check.everything(x), due);
        }
        RhymeFerry unlike = Check.told(Check.FIVE);
        refusedBy(unlike, 5, "cross", 0, 1);
        CHECK.same("cross without a rhyme", Check.everything(unlike), Check.everything(Check.told(Check.FIVE)));
        for (int[] had : new int[][] {{0, 0}, {1, 4}, {2, 0}}) {
            RhymeFerry x = Check.busy();
            refusedBy(x, 5, "buy", had);
            CHECK.same("buy what he has", Check.everything(x), due);
        }
        RhymeFerry x = Check.busy();
        CHECK.refused(x, "ferry of too many", x.ferry(x.size(12) + 1), 2);
        CHECK.same("ferry of too many", Check.everything(x), due);
        RhymeFerry y = Check.busy();
        CHECK.refused(y, "ferry of fewer than none", y.ferry(-1), 2);
        CHECK.same("ferry of fewer than none", Check.everything(y), due);
    }

    /** What only asks changes nothing either. */
    private static void askingChangesNothing() {
        String due = Check.everything(Check.busy());
        for (Face face : CALLS) {
            if (!List.of("cross", "buy", "hours", "image", "back").contains(face.name)) {
                RhymeFerry x = Check.busy();
                taken(x, face.name, face.usual);
                CHECK.same(face.name, Check.everything(x), due);
            }
        }
    }

    /** The numbers of words and people go as far as there are words and people. */
    private static void leastAndFull() {
        for (String text : new String[] {Check.LEAST, Check.FULL}) {
            RhymeFerry first = Check.told(text);
            int words = first.size(2);
            int people = first.size(3);
            for (Face face : CALLS) {
                for (int i = 0; i < face.places.length; i++) {
                    int most = mostOf(face.places[i], words, people);
                    boolean two = Arrays.stream(face.places).filter(place -> place == face.places[0]).count() > 1;
                    if (face.places[i].most < 0 && (words > 1 || !two)) {
                        int[] usual = words > 1 ? face.usual : new int[face.places.length];
                        taken(Check.told(text), face.name, with(usual, i, most));
                        refusedBy(Check.told(text), 1, face.name, with(usual, i, most + 1));
                    }
                }
            }
        }
        RhymeFerry x = Check.told(Check.LEAST);
        CHECK.refused(x, "there is no second person", x.rhyme(0, 1, 0), 1);
        CHECK.refused(x, "there is no second word", x.rests(0, 1, 0), 1);
        CHECK.answer(x, "a word with itself", x.like(0, 0), 2);
    }
}
