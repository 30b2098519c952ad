import java.lang.reflect.Field;
import java.lang.reflect.Method;
import java.lang.reflect.Modifier;
import java.nio.file.Files;
import java.nio.file.Path;
import java.util.ArrayList;
import java.util.List;
import java.util.Set;
import java.util.regex.Matcher;
import java.util.regex.Pattern;

/** The rules of ../shared/LANGUAGE.md that can be seen from the source or from the compiled classes. */
final class LanguageTest {
    private static final Path PROGRAM = Path.of("src/main/java/PlantGraph.java");
    private static final Set<Class<?>> CONSTANTS = Set.of(int.class, long.class, boolean.class, char.class, String.class,
            int[].class, long[].class, char[].class, byte[].class);
    private static final Set<String> CALLED = Set.of("Arrays.fill", "Math.min", "word.length", "word.charAt");

    private static List<String> lines;
    private static String code;

    public static void main(String[] args) throws Exception {
        lines = Files.readAllLines(PROGRAM);
        code = withoutCommentsAndTexts(String.join("\n", lines));
        rule2And3And6();
        rule4();
        rule5();
        rule6();
        rule11();
        Check.end("LanguageTest");
    }

    private static String withoutCommentsAndTexts(String source) {
        return source.replaceAll("(?s)/\\*.*?\\*/", "").replaceAll("//[^\n]*", "")
                .replaceAll("\"(?:[^\"\\\\]|\\\\.)*\"", "\"\"").replaceAll("'(?:[^'\\\\]|\\\\.)'", "' '");
    }

    private static void hasNo(String pattern) {
        Matcher found = Pattern.compile(pattern).matcher(code);
        Check.due("the program has no " + pattern, found.find() ? found.group() : "", "");
    }

    private static void rule2And3And6() {
        String[] none = {"->", "::", "\\btry\\b", "\\bcatch\\b", "\\bfinally\\b", "\\bsynchronized\\b", "\\bassert\\b", "\\bdouble\\b",
            "\\bfloat\\b", "\\binstanceof\\b", "\\bpackage\\b", "\\bprotected\\b", "\\bequals\\b", "\\bhashCode\\b", "\\btoString\\b",
            "\"\"\\s*\\+", "\\+\\s*\"\"", "\\[\\]\\[\\]\\[\\]", "\\w+Exact\\b", "\\bstatic\\s*\\{"};
        for (String pattern : none) {
            hasNo(pattern);
        }
    }

    /** Calls of the library stand here one by one; all other calls with a dot are those of own objects. */
    private static void rule4() {
        Matcher use = Pattern.compile("import ([\\w.]+);").matcher(code);
        while (use.find()) {
            Check.due("imported", use.group(1), "java.util.Arrays");
        }
        Matcher call = Pattern.compile("\\b(Arrays|Math|Integer|Long|System|String|word)\\.\\w+").matcher(code);
        while (call.find()) {
            Check.due(call.group() + " is in the list", CALLED.contains(call.group()) || isImport(call.start()), true);
        }
    }

    private static boolean isImport(int place) {
        return code.lastIndexOf("import", place) > code.lastIndexOf(";", place);
    }

    private static List<Class<?>> classes() {
        List<Class<?>> all = new ArrayList<>(List.of(PlantGraph.class.getDeclaredClasses()));
        all.add(PlantGraph.class);
        return all;
    }

    private static void rule5() {
        for (Class<?> c : classes()) {
            for (Field f : c.getDeclaredFields()) {
                if (Modifier.isStatic(f.getModifiers())) {
                    Check.due(f + " is final", Modifier.isFinal(f.getModifiers()), true);
                    Check.due(f + " is of a type for constants", CONSTANTS.contains(f.getType()), true);
                }
            }
        }
    }

    private static void rule6() {
        Matcher thrown = Pattern.compile("throw\\s[^;]*;").matcher(code);
        int count = 0;
        while (thrown.find()) {
            count++;
            Check.due("thrown", thrown.group(), "throw new IndexOutOfBoundsException(\"\");");
        }
        Check.due("only position throws", count, 1);
    }

    private static void rule11() {
        Check.due("twelve classes at most", classes().size() <= 12, true);
        for (Class<?> c : classes()) {
            int fields = 0;
            for (Field f : c.getDeclaredFields()) {
                fields += Modifier.isStatic(f.getModifiers()) ? 0 : 1;
            }
            Check.due(c + " has twenty fields at most", fields <= 20, true);
            for (Method m : c.getDeclaredMethods()) {
                Check.due(m + " has seven parameters at most", m.getParameterCount() <= 7, true);
            }
        }
        shortMethods();
    }

    /** A method begins in a line that ends with ") {" and ends with the brace of the same indent. */
    private static void shortMethods() {
        Pattern begin = Pattern.compile("( {4}| {8})(?! )[\\w\\[\\] ]+\\([^)]*\\)[\\w ]* \\{");
        for (int n = 0; n < lines.size(); n++) {
            Matcher m = begin.matcher(lines.get(n));
            if (m.matches() && !lines.get(n).strip().matches("(if|for|while|switch) .*")) {
                int end = n;
                while (end < lines.size() && !lines.get(end).equals(m.group(1) + "}")) {
                    end++;
                }
                Check.due(lines.get(n).strip() + " has sixty lines at most", end - n < 60, true);
            }
        }
    }
}
