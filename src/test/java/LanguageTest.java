import java.io.IOException;
import java.nio.file.Files;
import java.nio.file.Path;
import java.util.List;
import java.util.regex.Matcher;
import java.util.regex.Pattern;

/** What of LANGUAGE.md can be read off the program's lines; it runs where the project's root is. */
public final class LanguageTest {
    private static final String[] FORBIDDEN = {
        "->", "::", "\\bfinally\\b", "\\bsynchronized\\b", "\\bassert\\b", "\\bcatch\\b", "\\btry\\b", "\\binstanceof\\b",
        "\\bgetMessage\\b", "Exact\\(", "\\bSystem\\.(?!arraycopy\\b)", "\\bRandom\\b", "\\bThread\\b", "\\bequals\\b",
        "\\bhashCode\\b", "\\btoString\\b", "\\bdouble\\b", "\\bfloat\\b", "\\bObject\\b", "\\bpackage\\b",
        "\\bstatic\\s*\\{", "\\bfor \\(;;", "\\bwhile \\(true\\)",
    };
    private static final Pattern METHOD = Pattern.compile("^( {4}| {8})\\S.*[^;]$");
    private static final int MOST_LINES = 60;
    private static final int MOST_CLASSES = 12;

    public static void main(String[] args) throws IOException {
        List<String> lines = Files.readAllLines(Path.of("src/main/java/SpeechTiers.java"));
        String code = String.join("\n", lines).replaceAll("(?s)/\\*.*?\\*/", "").replaceAll("//[^\n]*", "");
        for (String word : FORBIDDEN) {
            Check.due("'" + word + "' in the program", Pattern.compile(word).matcher(code).find() ? 1 : 0, 0);
        }
        imports(code);
        throwsOnly(code);
        signs(code);
        classes(code);
        methods(lines);
        Check.finish();
    }

    private static void imports(String code) {
        Matcher m = Pattern.compile("import ([^;]*);").matcher(code);
        while (m.find()) {
            Check.due("import " + m.group(1), m.group(1).equals("java.util.NoSuchElementException") ? 1 : 0, 1);
        }
    }

    /** Rule 6: a throw makes its exception there and then. */
    private static void throwsOnly(String code) {
        Matcher m = Pattern.compile("\\bthrow\\b([^;]*);").matcher(code);
        while (m.find()) {
            boolean listed = m.group(1).matches(" new (NoSuchElement|IllegalArgument|IllegalState)Exception\\(\\)");
            Check.due("throw" + m.group(1), listed ? 1 : 0, 1);
        }
    }

    private static void signs(String code) {
        Check.due("signs beyond 127", code.chars().filter(c -> c > 127 || c == '\t').count(), 0);
    }

    private static void classes(String code) {
        int classes = 0;
        Matcher m = Pattern.compile("\\bclass \\w+").matcher(code);
        while (m.find()) {
            classes++;
        }
        Check.due(classes + " classes", classes <= MOST_CLASSES ? 1 : 0, 1);
    }

    /** Rule 11: a method's lines, from its head to the brace that stands under it. */
    private static void methods(List<String> lines) {
        for (int i = 0; i < lines.size(); i++) {
            String line = lines.get(i);
            boolean isHead = METHOD.matcher(line).matches() && line.contains("(") && !line.contains(" class ");
            if (isHead) {
                String end = line.substring(0, line.length() - line.stripLeading().length()) + "}";
                int last = i;
                while (last + 1 < lines.size() && !lines.get(last).equals(end)) {
                    last++;
                }
                Check.due("lines of " + line.strip(), last - i + 1 <= MOST_LINES ? 1 : 0, 1);
            }
        }
    }
}
