import java.io.IOException;
import java.lang.reflect.Member;
import java.lang.reflect.Method;
import java.lang.reflect.Modifier;
import java.nio.file.Files;
import java.nio.file.Path;
import java.util.Arrays;
import java.util.Set;
import java.util.TreeSet;
import java.util.regex.Matcher;
import java.util.regex.Pattern;

/** The face is the document's and no more; the source keeps to rules that a search can see. */
final class FaceTest {
    private static final Check CHECK = new Check();
    private static final String FACE = "feed(int,int,int,int,int)int ferry(int)int fault()int where()int "
        + "word(int,int)int like(int,int)int eye(int,int)int person(int,int)int ear(int)int "
        + "rhyme(int,int,int)int with(int,int)int bestHour(int)int classOf(int,int)int classes(int)int "
        + "bestName(int,int)int renamed(int,int,int)int meets(int,int)int often(int,int)int "
        + "cheapest(int,int)int pairs(int,int)int partner(int,int,int)int alone(int,int)int kept(int)int "
        + "judge()int coins(int,int)int keep(int,int)int refrain(int,int)int heard()int "
        + "heardEar(boolean)int ask()int askLeaves()int sells(int,int,int,int,int,boolean)int "
        + "rests(int,int,int)int rest(int,int,int)int day(int,int)int crossedIn(int,int,int)int "
        + "cross(int,int)int buy(int,int)int hours(int)int undo()boolean image()int back(int)boolean "
        + "led(int)int size(int)int trouble()int";

    public static void main(String[] args) throws IOException {
        methods();
        others();
        source();
        CHECK.end();
    }

    private static void methods() {
        Set<String> due = new TreeSet<>(Arrays.asList(FACE.split(" ")));
        Set<String> names = new TreeSet<>();
        for (String method : due) {
            names.add(method.substring(0, method.indexOf('(')));
        }
        Set<String> found = new TreeSet<>();
        for (Method method : RhymeFerry.class.getDeclaredMethods()) {
            if (isSeen(method)) {
                StringBuilder kinds = new StringBuilder();
                for (Class<?> kind : method.getParameterTypes()) {
                    kinds.append(kinds.length() == 0 ? "" : ",").append(kind.getName());
                }
                found.add(method.getName() + "(" + kinds + ")" + method.getReturnType().getName());
            } else {
                CHECK.due("private " + method.getName(), names.contains(method.getName()), false);
            }
        }
        CHECK.due("methods " + found, found.equals(due), true);
        for (Class<?> inside : RhymeFerry.class.getDeclaredClasses()) {
            for (Method method : inside.getDeclaredMethods()) {
                CHECK.due(inside.getName() + " " + method.getName(), names.contains(method.getName()), false);
                CHECK.due(method.getName() + " has at most seven", method.getParameterCount() <= 7, true);
            }
        }
    }

    private static void others() {
        CHECK.due("NONE", RhymeFerry.NONE, -1);
        CHECK.due("final", Modifier.isFinal(RhymeFerry.class.getModifiers()), true);
        CHECK.due("constructors", RhymeFerry.class.getDeclaredConstructors().length, 1);
        CHECK.due("fields", Arrays.stream(RhymeFerry.class.getDeclaredFields()).filter(FaceTest::isSeen).count(), 1);
        CHECK.due("classes", RhymeFerry.class.getDeclaredClasses().length <= 11, true);
        for (Class<?> inside : RhymeFerry.class.getDeclaredClasses()) {
            CHECK.due(inside.getName() + " static", Modifier.isStatic(inside.getModifiers()), true);
            CHECK.due(inside.getName() + " private", Modifier.isPrivate(inside.getModifiers()), true);
        }
    }

    private static boolean isSeen(Member member) {
        return !Modifier.isPrivate(member.getModifiers()) && !member.isSynthetic();
    }

    private static void source() throws IOException {
        String text = Files.readString(Path.of("src/main/java/RhymeFerry.java"));
        String code = text.replaceAll("(?s)/\\*.*?\\*/", "").replaceAll("//[^\n]*", "");
        for (String never : new String[] {"->", "::", "Exact", "\\bcatch\\b", "\\bfinally\\b", "\\bassert\\b",
            "\\bsynchronized\\b", "\\bpackage\\b", "System\\.(?!arraycopy)", "Math\\.(?!max|min)", "\\bnew [A-Z]\\w*\\[",
            "while \\(true", "for \\(;;", "\\bstatic \\{", "getMessage", "hashCode", "toString"}) {
            Matcher matcher = Pattern.compile(never).matcher(code);
            CHECK.due("the source has " + never, matcher.find(), false);
        }
        Matcher imports = Pattern.compile("import ([\\w.]+);").matcher(code);
        while (imports.find()) {
            CHECK.due(imports.group(), "java.util.Arrays java.util.NoSuchElementException"
                .contains(imports.group(1)), true);
        }
        boolean ascii = text.chars().allMatch(c -> c == '\n' || c >= 32 && c < 127);
        CHECK.due("plain signs", ascii, true);
    }
}
