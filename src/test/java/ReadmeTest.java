import java.io.ByteArrayOutputStream;
import java.io.IOException;
import java.io.PrintStream;
import java.nio.charset.StandardCharsets;
import java.nio.file.DirectoryStream;
import java.nio.file.Files;
import java.nio.file.Path;

/** README.md keeps its word: its example is the one that runs here and prints what it says, its lines are a text. */
final class ReadmeTest {
    private static final Check CHECK = new Check();

    public static void main(String[] args) throws IOException {
        String readme = Files.readString(Path.of("README.md"));
        example(readme);
        lines(readme);
        table(readme);
        CHECK.end();
    }

    /** What stands between the fences of the first block of this sort from a place on. */
    private static String block(String readme, String sort, int from) {
        String fence = "```" + sort + "\n";
        int open = readme.indexOf(fence, from);
        int close = open < 0 ? -1 : readme.indexOf("\n```", open);
        return close < 0 ? "no such block" : readme.substring(open + fence.length(), close + 1);
    }

    private static void example(String readme) throws IOException {
        String source = Files.readString(Path.of("src/test/java/ReadmeExample.java"));
        CHECK.same("the example's source", block(readme, "java", 0), source);
        CHECK.same("what it prints", printed(), block(readme, "text", readme.indexOf("It prints:")));
    }

    private static String printed() {
        PrintStream before = System.out;
        ByteArrayOutputStream bytes = new ByteArrayOutputStream();
        System.setOut(new PrintStream(bytes, true, StandardCharsets.UTF_8));
        ReadmeExample.main(new String[0]);
        System.setOut(before);
        return bytes.toString(StandardCharsets.UTF_8).replace("\r\n", "\n");
    }

    /** The lines that README.md shows, with a second word and person told, are a FERRY. */
    private static void lines(String readme) {
        StringBuilder text = new StringBuilder();
        for (String line : block(readme, "text", 0).split("\n")) {
            String told = line.substring(0, line.indexOf("   "));
            text.append(text.length() == 0 ? "" : ";").append(told);
            text.append(told.startsWith("word ") ? ";word hat sounds bac price 2" : "");
            text.append(told.startsWith("person ") ? ";person bo plain on near has hat" : "");
        }
        RhymeFerry x = new RhymeFerry();
        CHECK.answer(x, "the lines of README.md", ReadmeExample.tell(x, text.toString()), 2);
        for (int what = 4; what <= 7; what++) {
            CHECK.due("a line of each sort: size " + what, x.size(what), 1);
        }
        CHECK.due("al knows hat", x.person(0, 2), 3);
    }

    private static void table(String readme) throws IOException {
        try (DirectoryStream<Path> tests = Files.newDirectoryStream(Path.of("src/test/java"), "*Test.java")) {
            for (Path test : tests) {
                String name = test.getFileName().toString().replace(".java", "");
                CHECK.due("README.md has " + name, readme.contains("\n| " + name + " | "), true);
            }
        }
    }
}
