import java.util.ArrayList;
import java.util.List;
import java.util.NoSuchElementException;
import java.util.Random;

/** Runs of calls by fixed seeds, on the class and on the plain model of the document. */
final class ModelTest {
    private static final Check CHECK = new Check();
    private static final int RUNS = 2400;
    /** An object is good for 512 calls; a text and what follows takes 49 at most. */
    private static final int CALLS = 512 - 49;
    private static final String[] NAMES = {"a", "b", "hat", "cat", "chat", "that", "at", "smith", "kith", "it", "moon",
        "soon", "on", "near", "ear", "sounds", "plain", "abcdefgh", "xbcdefgh", "efgh"};
    private static final String[] KINDS = {"plain", "plain", "plain", "plain", "plain", "plain", "deaf", "deaf", "poet",
        "poet", "child"};
    private static final String[] ANSWERS = {"over", "wet", "back"};
    private static final String[] ODD = {";", "5", "0", "24", "999", "1000", "ferry", "word", "got", "hat", "zz", "i", "abc",
        "a", "abcdefghi", "!", "\t", "A", "\u00ff", "", " "};

    private final Random random;
    private final RhymeFerry x = new RhymeFerry();
    private final Model model = new Model();

    private ModelTest(int seed) {
        random = new Random(seed);
    }

    public static void main(String[] args) {
        for (int seed = 1; seed <= RUNS; seed++) {
            new ModelTest(seed).run(seed);
        }
        CHECK.end();
    }

    private void run(int seed) {
        int calls = 0;
        while (calls < CALLS) {
            if (calls == 0 || random.nextInt(40) == 0) {
                calls += tell(seed);
            }
            call("run " + seed + " ");
            calls += 4;
        }
    }

    // ---- texts

    private int tell(int seed) {
        boolean spoilt = random.nextInt(3) == 0;
        String text = text(spoilt);
        // What is not spoilt on purpose is to be a ferry: words and people enough to ask about.
        for (int tries = 0; tries < 200 && !spoilt && new Model().ferry(text) < 0; tries++) {
            text = text(false);
        }
        String what = "run " + seed + " '" + text + "' ";
        CHECK.due(what + "ferry", Check.tell(x, text), model.ferry(text));
        same(what);
        return (text.length() + 19) / 20 + 4;
    }

    private String text(boolean spoilt) {
        List<String> tokens = tokens();
        for (int i = random.nextInt(3); i >= 0 && spoilt; i--) {
            spoil(tokens);
        }
        StringBuilder text = new StringBuilder();
        for (String token : tokens) {
            text.append(random.nextInt(20) == 0 ? "  " : token.equals(";") ? "" : " ").append(token);
        }
        String cut = text.length() > 900 ? text.substring(0, 900) : text.toString();
        return spoilt && random.nextInt(6) == 0 ? cut.substring(0, random.nextInt(cut.length() + 1)) : cut;
    }

    private void spoil(List<String> tokens) {
        int at = random.nextInt(tokens.size());
        boolean whole = tokens.get(at).matches("[0-9]+");
        switch (random.nextInt(5)) {
            case 0:
                tokens.remove(at);
                break;
            case 1:
                tokens.add(at, ODD[random.nextInt(ODD.length)]);
                break;
            case 2:
                tokens.set(at, whole ? "" + random.nextInt(120) : ODD[random.nextInt(ODD.length)]);
                break;
            case 3:
                tokens.subList(0, Math.max(1, tokens.indexOf(";") + 1)).clear();
                if (tokens.isEmpty()) {
                    tokens.add("word");
                }
                break;
            default:
                tokens.set(at, tokens.get(random.nextInt(tokens.size())));
        }
    }

    private List<String> tokens() {
        List<String> names = new ArrayList<>(List.of(NAMES));
        List<String> lines = new ArrayList<>();
        String letters = new String[] {"ab", "abc", "abcdefgh"}[random.nextInt(3)];
        lines.add("ferry ear " + (2 + random.nextInt(4)) + " pairs " + (1 + random.nextInt(3)));
        List<String> words = new ArrayList<>();
        int wordCount = 1 + random.nextInt(random.nextInt(3) == 0 ? 11 : 6);
        for (int i = 0; i < wordCount; i++) {
            words.add(names.remove(random.nextInt(names.size())));
            StringBuilder sounds = new StringBuilder();
            for (int k = 2 + random.nextInt(5); k > 0; k--) {
                sounds.append(letters.charAt(random.nextInt(letters.length())));
            }
            lines.add("word " + words.get(i) + " sounds " + sounds + " price " + random.nextInt(12));
        }
        List<String> people = new ArrayList<>();
        int personCount = 1 + random.nextInt(random.nextInt(8) == 0 ? 9 : 8);
        for (int i = 0; i < personCount; i++) {
            people.add(names.remove(random.nextInt(names.size())));
            lines.add("person " + people.get(i) + " " + KINDS[random.nextInt(KINDS.length)] + " on "
                + (random.nextInt(6) == 0 ? "far" : "near") + " has " + any(words));
        }
        int firstMore = lines.size();
        for (int i = random.nextInt(12); i > 0; i--) {
            lines.add(firstMore + random.nextInt(lines.size() - firstMore + 1), moreLine(words, people, letters));
        }
        return new ArrayList<>(List.of(String.join(" ; ", lines).split(" ")));
    }

    private String moreLine(List<String> words, List<String> people, String letters) {
        switch (random.nextInt(6)) {
            case 0:
                return "knows " + any(people) + " " + any(words);
            case 1:
                return "alike " + letters.charAt(random.nextInt(letters.length())) + " "
                    + (char) ('a' + random.nextInt(8));
            case 2:
                return "hour " + random.nextInt(24) + " ear " + (1 + random.nextInt(6));
            case 3:
            case 4:
                return "errand " + any(people) + " by " + (1 + random.nextInt(4));
            default:
                return "got " + any(people) + " " + any(people) + " " + ANSWERS[random.nextInt(3)];
        }
    }

    private String any(List<String> of) {
        return of.get(random.nextInt(of.size()));
    }

    // ---- calls

    private int number(int count) {
        return random.nextInt(25) == 0 ? random.nextInt(count + 6) - 3 : random.nextInt(Math.max(1, count));
    }

    private int p() {
        return number(model.people.size());
    }

    private int w() {
        return number(model.size(2));
    }

    private int h() {
        return number(24);
    }

    private void call(String run) {
        int which = random.nextInt(44);
        int p = p();
        int q = p();
        int w = w();
        int u = w();
        int h = h();
        int bank = number(2);
        boolean flag = random.nextBoolean();
        String what = run + "call " + which + " p " + p + " q " + q + " w " + w + " u " + u + " h " + h + " bank " + bank;
        int a = number(10);
        int b = number(10);
        int seed = random.nextInt(20) == 0 ? -1 + 65538 * random.nextInt(2) : random.nextInt(65537);
        int n = number(25);
        switch (which) {
            case 0: CHECK.due(what, x.word(w, a / 3), model.word(w, a / 3)); break;
            case 1: CHECK.due(what, x.like(w, u), model.like(w, u)); break;
            case 2: CHECK.due(what, x.eye(w, u), model.eye(w, u)); break;
            case 3: CHECK.due(what, x.person(p, a / 2), model.person(p, a / 2)); break;
            case 4: CHECK.due(what, x.ear(h), model.ear(h)); break;
            case 5: CHECK.due(what, x.rhyme(p, q, h), model.rhymeAt(p, q, h)); break;
            case 6: CHECK.due(what, x.with(p, h), model.with(p, h)); break;
            case 7: CHECK.due(what, x.bestHour(p), model.bestHour(p)); break;
            case 8: CHECK.due(what, x.classOf(p, h), model.classOf(p, h)); break;
            case 9: CHECK.due(what, x.classes(h), model.classes(h)); break;
            case 10: CHECK.due(what, x.bestName(p, h), model.bestName(p, h)); break;
            case 11: CHECK.due(what, x.renamed(p, w, h), model.renamed(p, w, h)); break;
            case 12: CHECK.due(what, x.meets(p, q), model.meets(p, q)); break;
            case 13: CHECK.due(what, x.often(p, q), model.often(p, q)); break;
            case 14: CHECK.due(what, x.cheapest(p, h), model.cheapest(p, h)); break;
            case 15: CHECK.due(what, x.pairs(bank, h), model.pairs(bank, h)); break;
            case 16: CHECK.due(what, x.partner(p, bank, h), model.partner(p, bank, h)); break;
            case 17: CHECK.due(what, x.alone(bank, h), model.alone(bank, h)); break;
            case 18: CHECK.due(what, x.kept(h), model.kept(h)); break;
            case 19: CHECK.due(what, x.judge(), model.judge()); break;
            case 20: CHECK.due(what, x.coins(bank, h), model.coins(bank, h)); break;
            case 21: CHECK.due(what, x.keep(bank, h), model.keep(bank, h)); break;
            case 22: CHECK.due(what, x.refrain(bank, h), model.refrain(bank, h)); break;
            case 23: CHECK.due(what, x.heard(), model.heard()); break;
            case 24: CHECK.due(what, x.heardEar(flag), model.heardEar(flag)); break;
            case 25: CHECK.due(what, x.ask(), model.ask(false)); break;
            case 26: CHECK.due(what, x.askLeaves(), model.ask(true)); break;
            case 27: CHECK.due(what, x.sells(w, a, u, b, h, flag), model.sells(w, a, u, b, h, flag)); break;
            case 28: CHECK.due(what, x.rests(w, u, h), model.rests(w, u, h, false)); break;
            case 29: CHECK.due(what, x.rest(w, u, h), model.rests(w, u, h, true)); break;
            case 30: CHECK.due(what, x.day(seed, n), model.day(-2, seed, n)); break;
            case 31:
                if (p != -2) {
                    CHECK.due(what, x.crossedIn(p, seed, n), model.day(p, seed, n));
                }
                break;
            case 32: case 33: case 34: CHECK.due(what, x.cross(p, q), model.cross(p, q)); break;
            case 35: case 36: CHECK.due(what, x.buy(p, w), model.buy(p, w)); break;
            case 37: case 38: CHECK.due(what, x.hours(n), model.hours(n)); break;
            case 39: CHECK.due(what, x.undo() ? 1 : 0, model.undo()); break;
            case 40: CHECK.due(what, x.image(), model.image()); break;
            case 41: CHECK.due(what, x.back(bank) ? 1 : 0, model.back(bank)); break;
            case 42: CHECK.due(what, led(bank), model.led(bank)); break;
            default: CHECK.due(what, x.size(n / 2), model.size(n / 2));
        }
        same(what);
    }

    private int led(int i) {
        try {
            return x.led(i);
        } catch (NoSuchElementException e) {
            return -9;
        }
    }

    private void same(String what) {
        CHECK.due(what + ": trouble", x.trouble(), model.trouble);
        CHECK.due(what + ": fault", x.fault(), model.fault);
        CHECK.due(what + ": where", x.where(), model.where());
    }
}
