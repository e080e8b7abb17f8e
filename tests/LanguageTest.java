import java.io.IOException;
import java.lang.reflect.Constructor;
import java.lang.reflect.Field;
import java.lang.reflect.Method;
import java.lang.reflect.Modifier;
import java.nio.file.Files;
import java.nio.file.Path;
import java.util.ArrayList;
import java.util.Arrays;
import java.util.List;
import java.util.Set;
import java.util.TreeSet;
import java.util.regex.Matcher;
import java.util.regex.Pattern;

/** The rules of ../shared/LANGUAGE.md that can be seen by machine, and the document's face. */
public final class LanguageTest {
    private static final String[] FACE = {
        "word 1", "lengthOf 1", "rule 4", "of 2", "clash 3", "often 2", "person 1", "breath 2", "terms 2", "feed 5",
        "end 1", "row 0", "coughs 0", "law 0", "orders 0", "fault 0", "stopped 0", "force 1", "say 2", "pray 4", "at 2",
        "rank 2", "order 1", "dawn 0", "undo 0", "sweep 0", "code 2", "bundle 2", "cover 2", "when 3", "longest 3",
        "keep 5", "answer 3", "forget 0", "hidden 1", "season 2", "drawn 2", "image 1", "back 1", "count 1", "status 0"};
    private static final String[] FORBIDDEN = {
        "\\bthrow\\b", "\\bthrows\\b", "\\btry\\b", "\\bcatch\\b", "\\bfinally\\b", "\\bsynchronized\\b", "\\bassert\\b",
        "->", "::", "\\bimport\\b", "\\bpackage\\b", "\\bstatic\\s*\\{", "Exact\\b", "\\bequals\\b", "\\bhashCode\\b",
        "\\btoString\\b", "\\bThread\\b", "\\bObject\\b", "\\bvar\\b", "\\byield\\b", "\\binstanceof\\b", "\\bsuper\\b",
        "System\\.(?!arraycopy\\b)", "Math\\.(?!(min|max|abs)\\b)", "Integer\\.(?!bitCount\\b)", "\\bLong\\.", "\\bArrays\\b",
        "\\bString\\s*\\[", "\\bdouble\\b", "\\bfloat\\b", "@", "while\\s*\\(true\\)", "for\\s*\\(\\s*;"};

    private static int wrong = 0;

    private LanguageTest() {
    }

    public static void main(String[] args) throws IOException {
        String source = Files.readString(Path.of("src/main/java/ShortPrayers.java"));
        String plain = withoutCommentsAndTexts(source);
        for (String forbidden : FORBIDDEN) {
            Matcher matcher = Pattern.compile(forbidden).matcher(plain);
            if (matcher.find()) {
                long line = plain.substring(0, matcher.start()).chars().filter(c -> c == '\n').count() + 1;
                wrong("forbidden: " + forbidden + " in line " + line);
            }
        }
        if (source.chars().anyMatch(c -> c > 126 || (c < 32 && c != '\n'))) {
            wrong("a sign that is not plain");
        }
        methodLengths(plain);
        loops(plain);
        face();
        classes();
        System.out.println(wrong == 0 ? "the language is kept" : wrong + " rules broken");
        if (wrong != 0) {
            System.exit(1);
        }
    }

    private static void wrong(String what) {
        wrong++;
        System.out.println(what);
    }

    private static String withoutCommentsAndTexts(String source) {
        Matcher matcher = Pattern.compile("\"(\\\\.|[^\"\\\\])*\"|'(\\\\.|[^'\\\\])*'|//[^\n]*|/\\*.*?\\*/", Pattern.DOTALL)
            .matcher(source);
        return matcher.replaceAll(found -> found.group().replaceAll("[^\n]", " "));
    }

    private static void methodLengths(String plain) {
        String[] lines = plain.split("\n");
        for (int i = 0; i < lines.length; i++) {
            Matcher head = Pattern.compile("^( {4}| {8})[a-zA-Z][\\w<>\\[\\] ]*\\(.*").matcher(lines[i]);
            if (!head.matches() || lines[i].contains("=")) {
                continue;
            }
            for (int j = i + 1; j < lines.length; j++) {
                if (lines[j].startsWith(head.group(1) + "}")) {
                    if (j - i > 60) {
                        wrong("a method of " + (j - i) + " lines at line " + (i + 1));
                    }
                    break;
                }
            }
        }
    }

    /** A counter goes by one step of a told length against a bound: so the end can be seen (rule 9). */
    private static void loops(String plain) {
        Pattern counted = Pattern.compile("for \\(int (\\w+) = [^;]+; [^;]*\\b\\1 (<=?|>=?) [^;]+; \\1(\\+\\+|--| [+-]= \\d+)\\) \\{");
        String[] lines = plain.split("\n");
        int found = 0;
        for (int i = 0; i < lines.length; i++) {
            if (Pattern.compile("\\bfor\\b").matcher(lines[i]).find()) {
                found++;
                if (!counted.matcher(lines[i].strip()).matches()) {
                    wrong("a loop without a counter at line " + (i + 1));
                }
            }
            boolean counts = i + 2 < lines.length && Pattern.compile("\\w+\\+\\+;").matcher(lines[i + 1] + lines[i + 2]).find();
            if (lines[i].contains("while") && !counts) {
                wrong("a loop that does not count at line " + (i + 1));
            }
        }
        if (found < 50) {
            wrong("no more than " + found + " loops were seen");
        }
    }

    private static void face() {
        Set<String> due = new TreeSet<>(Arrays.asList(FACE));
        Set<String> found = new TreeSet<>();
        Set<String> names = new TreeSet<>();
        for (String call : FACE) {
            names.add(call.substring(0, call.indexOf(' ')));
        }
        for (Method method : ShortPrayers.class.getDeclaredMethods()) {
            if (Modifier.isPublic(method.getModifiers())) {
                found.add(method.getName() + " " + method.getParameterCount());
                if (method.getReturnType() != int.class || Modifier.isStatic(method.getModifiers())) {
                    wrong("not as in the face: " + method);
                }
            } else if (!Modifier.isPrivate(method.getModifiers())) {
                wrong("neither public nor private: " + method);
            }
        }
        if (!due.equals(found)) {
            wrong("the face is " + found);
        }
        List<Class<?>> all = new ArrayList<>(Arrays.asList(ShortPrayers.class.getDeclaredClasses()));
        all.add(ShortPrayers.class);
        for (Class<?> each : all) {
            for (Method method : each.getDeclaredMethods()) {
                if (names.contains(method.getName()) && (each != ShortPrayers.class || !Modifier.isPublic(method.getModifiers()))) {
                    wrong("bears a name of the face: " + method);
                }
            }
        }
        for (Field field : ShortPrayers.class.getDeclaredFields()) {
            boolean known = field.getName().equals("NONE") || field.getName().equals("NOTHING");
            if (known != Modifier.isPublic(field.getModifiers()) || (!known && !Modifier.isPrivate(field.getModifiers()))) {
                wrong("not as in the face: " + field);
            }
        }
    }

    private static void classes() {
        List<Class<?>> all = new ArrayList<>(Arrays.asList(ShortPrayers.class.getDeclaredClasses()));
        all.add(ShortPrayers.class);
        if (all.size() > 12) {
            wrong("classes: " + all.size());
        }
        for (Class<?> each : all) {
            if (each != ShortPrayers.class && !Modifier.isStatic(each.getModifiers())) {
                wrong("not static: " + each);
            }
            int fields = 0;
            for (Field field : each.getDeclaredFields()) {
                if (!Modifier.isStatic(field.getModifiers())) {
                    fields++;
                } else if (!Modifier.isFinal(field.getModifiers()) || !field.getType().isPrimitive()) {
                    wrong("static state: " + field);
                }
            }
            if (fields > 20) {
                wrong("fields of " + each + ": " + fields);
            }
            for (Method method : each.getDeclaredMethods()) {
                if (method.getParameterCount() > 7) {
                    wrong("parameters: " + method);
                }
            }
            for (Constructor<?> made : each.getDeclaredConstructors()) {
                if (made.getParameterCount() > 7) {
                    wrong("parameters: " + made);
                }
            }
        }
    }
}
