import java.io.IOException;
import java.lang.reflect.Constructor;
import java.lang.reflect.Field;
import java.lang.reflect.Method;
import java.lang.reflect.Modifier;
import java.nio.file.Files;
import java.nio.file.Path;
import java.util.Arrays;
import java.util.List;
import java.util.Set;
import java.util.TreeSet;
import java.util.regex.Matcher;
import java.util.regex.Pattern;

/** The public face as the document has it, and some rules of LANGUAGE.md that a look at the text can tell. */
public final class FaceTest {
    private static final Checks CHECKS = new Checks("FaceTest");

    private static final String[] FACE = {
        "append(int, int, int, int, int) int",
        "parse(int) int IllegalArgumentException",
        "errorPosition() int",
        "size(int) int IllegalArgumentException",
        "line(int, int) int IndexOutOfBoundsException IllegalArgumentException",
        "isUsable(int, int) boolean IndexOutOfBoundsException IllegalArgumentException",
        "cheapestLine(int) int",
        "known(int) int IndexOutOfBoundsException",
        "knowers(int) int IndexOutOfBoundsException",
        "missing() int",
        "partner(int) int IndexOutOfBoundsException",
        "arranged() int",
        "gain() int",
        "spent(int) int IllegalArgumentException",
        "best(int) int IllegalArgumentException",
        "plan(int) int IllegalArgumentException",
        "fewest(int) int IllegalArgumentException IllegalStateException",
        "doublings() int",
        "soonest(int, int) int IndexOutOfBoundsException",
        "cheapest(int, int) int IndexOutOfBoundsException",
        "vital() int",
        "arrange(int) int IndexOutOfBoundsException IllegalStateException",
        "takeBack(int) int IndexOutOfBoundsException IllegalStateException",
        "arrangeBest() int",
        "ring() int IllegalStateException",
        "cut(int) boolean IndexOutOfBoundsException IllegalStateException",
        "mend(int) int IndexOutOfBoundsException IllegalStateException",
        "tell(int, int) int IndexOutOfBoundsException IllegalStateException",
        "undo() int",
        "saveSnapshot(int) boolean IndexOutOfBoundsException",
        "restoreSnapshot(int) int IndexOutOfBoundsException IllegalStateException",
    };

    private static final String[] FORBIDDEN = {
        "\\bimport\\b", "\\bpackage\\b", "->", "::", "\\btry\\b", "\\bcatch\\b", "\\bfinally\\b", "\\bsynchronized\\b",
        "\\bassert\\b", "\\bSystem\\b", "\\bThread\\b", "Exact\\(", "\\bstatic\\s*\\{", "\\bprotected\\b", "\\bnative\\b",
        "\\bMath\\.(?!max\\b|min\\b)", "\\bInteger\\.(?!bitCount\\b)", "\\bLong\\b", "\\bArrays\\b", "\\bdouble\\b", "\\bfloat\\b",
        "\\bhashCode\\b", "\\btoString\\b", "\"\\s*\\+", "\\+\\s*\"",
    };

    private static final int LONGEST_METHOD = 60;
    private static final int MOST_CLASSES = 12;
    private static final Pattern METHOD = Pattern.compile("^( {4}| {8})((?:\\w+(?:\\[\\])* )+)(\\w+)\\(.*\\{$");

    public static void main(String[] args) throws IOException {
        face();
        String source = Files.readString(Path.of("src/main/java/NewsExchange.java"));
        forbidden(source);
        methods(Arrays.asList(source.split("\n")));
        CHECKS.end();
    }

    private static String names(Class<?>[] classes) {
        String text = Arrays.stream(classes).map(Class::getSimpleName).toList().toString();
        return text.substring(1, text.length() - 1);
    }

    private static void face() {
        Set<String> got = new TreeSet<>();
        for (Method method : NewsExchange.class.getDeclaredMethods()) {
            if (!Modifier.isPrivate(method.getModifiers())) {
                String thrown = names(method.getExceptionTypes()).replace(",", "");
                got.add((method.getName() + "(" + names(method.getParameterTypes()) + ") "
                    + method.getReturnType() + " " + thrown).trim());
                CHECKS.due(method.getName() + " is public", Modifier.toString(method.getModifiers()).equals("public"), true);
            }
        }
        Set<String> want = new TreeSet<>(Arrays.asList(FACE));
        CHECKS.due("methods " + got, got.equals(want), true);
        CHECKS.due("class", Modifier.toString(NewsExchange.class.getModifiers()).equals("public final"), true);
        Constructor<?>[] constructors = NewsExchange.class.getDeclaredConstructors();
        CHECKS.due("constructors", constructors.length, 1);
        CHECKS.due("its parameters", constructors[0].getParameterCount(), 0);
        CHECKS.due("NONE", NewsExchange.NONE, -1);
        for (Field field : NewsExchange.class.getDeclaredFields()) {
            boolean open = !Modifier.isPrivate(field.getModifiers());
            CHECKS.due("field " + field.getName() + " is open", open, field.getName().equals("NONE"));
        }
    }

    private static void forbidden(String source) {
        for (String text : FORBIDDEN) {
            CHECKS.due("the source has " + text, Pattern.compile(text).matcher(source).find(), false);
        }
        int classes = source.split("\\bclass [A-Z]", -1).length - 1;
        CHECKS.due("classes are at most " + MOST_CLASSES, classes <= MOST_CLASSES, true);
    }

    private static void methods(List<String> lines) {
        Set<String> names = new TreeSet<>(Set.of("NewsExchange"));
        for (String method : FACE) {
            names.add(method.substring(0, method.indexOf('(')));
        }
        for (int i = 0; i < lines.size(); i++) {
            Matcher matcher = METHOD.matcher(lines.get(i).replaceAll(" throws .*\\{", " {"));
            if (matcher.matches()) {
                int end = lines.subList(i, lines.size()).indexOf(matcher.group(1) + "}");
                CHECKS.due(matcher.group(3) + " is short", end > 0 && end <= LONGEST_METHOD, true);
                boolean open = matcher.group(2).startsWith("public ");
                CHECKS.due(matcher.group(3) + " bears a public name", names.contains(matcher.group(3)), open);
            }
        }
    }
}
