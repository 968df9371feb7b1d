import java.io.IOException;
import java.lang.reflect.Executable;
import java.lang.reflect.Field;
import java.lang.reflect.Method;
import java.lang.reflect.Modifier;
import java.nio.file.Files;
import java.nio.file.Path;
import java.util.ArrayList;
import java.util.Arrays;
import java.util.List;
import java.util.regex.Pattern;

/** The rules of ../shared/LANGUAGE.md that can be seen without understanding the program. */
final class LanguageTest {
    private static final Path SOURCE = Path.of("src/main/java/AdjustmentStack.java");
    private static final String[] FORBIDDEN = {"\\bthrows?\\b", "\\btry\\b", "\\bcatch\\b", "\\bsynchronized\\b",
        "\\bassert\\b", "\\bpackage\\b", "\\bprotected\\b", "\\bimport\\b", "->", "::", "\\bstatic\\s*\\{",
        "Exact\\s*\\(", "\\bfloat\\b", "\\bdouble\\b", "\\bequals\\b", "\\bhashCode\\b", "\\btoString\\b",
        "\\bSystem\\b", "\\bThread\\b", "\"\\s*\\+", "\\+\\s*\""};

    private LanguageTest() {
    }

    public static void main(String[] args) throws IOException {
        String code = withoutComments(Files.readString(SOURCE));
        for (String pattern : FORBIDDEN) {
            Check.holds("nothing like " + pattern, !Pattern.compile(pattern).matcher(code).find());
        }
        Check.holds("plain characters", code.chars().allMatch(c -> c < 128));
        lengthsOfMethods(code);
        classes();
        Check.end();
    }

    private static String withoutComments(String text) {
        return text.replaceAll("(?s)/\\*.*?\\*/", "").replaceAll("//[^\n]*", "");
    }

    private static void lengthsOfMethods(String code) {
        String[] lines = code.split("\n");
        Pattern start = Pattern.compile("^( {4}| {8})\\S.*\\) \\{$");
        for (int first = 0; first < lines.length; first++) {
            if (start.matcher(lines[first]).find()) {
                String end = lines[first].replaceAll("\\S.*", "") + "}";
                int last = first;
                while (last < lines.length - 1 && !lines[last].equals(end)) {
                    last++;
                }
                Check.holds(lines[first].trim() + " is short", last - first < 60);
            }
        }
    }

    private static void classes() {
        List<Class<?>> all = new ArrayList<>(Arrays.asList(AdjustmentStack.class.getDeclaredClasses()));
        all.add(AdjustmentStack.class);
        Check.holds("at most twelve classes", all.size() <= 12);
        for (Class<?> each : all) {
            long fields = Arrays.stream(each.getDeclaredFields())
                .filter(field -> !Modifier.isStatic(field.getModifiers())).count();
            Check.holds(each.getName() + " has at most twenty fields", fields <= 20);
            List<Executable> calls = new ArrayList<>(Arrays.asList(each.getDeclaredConstructors()));
            for (Method method : each.getDeclaredMethods()) {
                calls.add(method);
            }
            for (Executable call : calls) {
                Check.holds(call + " has at most seven parameters", call.getParameterCount() <= 7);
            }
            for (Field field : each.getDeclaredFields()) {
                Check.holds(field + " is of a type that a static field can have",
                    !Modifier.isStatic(field.getModifiers()) || field.getType() == int.class
                        || field.getType() == int[].class);
            }
        }
    }
}
