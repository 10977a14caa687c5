import java.io.IOException;
import java.nio.file.Files;
import java.nio.file.Path;
import java.util.regex.Matcher;
import java.util.regex.Pattern;

/** The rules of LANGUAGE.md that can be seen by going through the text of the class, line by line. */
public final class LanguageTest {
    private static final String SOURCE = "src/main/java/ChangeUntangler.java";
    private static final int MOST_LINES_OF_A_METHOD = 60;
    private static final int MOST_CLASSES = 12;
    private static final int MOST_FIELDS = 20;
    private static final int MOST_PARAMETERS = 7;

    /** The rule's number, and what may not stand in the code. */
    private static final String[][] FORBIDDEN = {
        {"1", "\\bpackage\\b|\\bprotected\\b"},
        {"2", "::|^(?!.*\\b(case|default)\\b).*->"},
        {"3", "\\[\\]\\[\\]\\[\\]|\\bObject\\b"},
        {"4", "\\bimport\\b(?! java\\.util\\.(ArrayList|List|Arrays|Iterator|NoSuchElementException);)"},
        {"4", "\\bSystem\\.(?!arraycopy\\()"},
        {"4", "\\b(Integer|Long|Math)\\.\\w+Exact\\b"},
        {"4", "\\bMath\\.(random|sqrt|cbrt|pow|exp|log\\w*|floor|ceil|round|rint|sin|cos|tan|hypot)\\("},
        {"5", "\\bstatic\\s*\\{"},
        {"5", "\\bstatic\\s+(?!final\\b)\\w+(\\[\\])*\\s+\\w+\\s*[=;]"},
        {"6", "\\bthrow\\b(?! new (IllegalState|IllegalArgument|IndexOutOfBounds|Arithmetic|UnsupportedOperation"
            + "|NoSuchElement|Runtime)Exception\\((\"\")?\\);)"},
        {"6", "\\b(finally|synchronized|assert)\\b|\\btry\\s*\\(|\\.getMessage\\("},
        {"6", "\\bcatch\\b.*\\b(Throwable|Error|Exception|(NullPointer|ClassCast|ArrayStore)Exception)\\b"},
        {"6", "\\bcatch\\b.*\\b(ArrayIndexOutOfBounds|NegativeArraySize)Exception\\b"},
        {"6", "\\bboolean equals\\(|\\bhashCode\\(|\\bString toString\\("},
        {"10", "\\+ *\"|\" *\\+"},
        {"13", "\\b(Random|Thread|Runtime|ProcessHandle)\\b|\\bjava\\.(io|net|nio|time)\\b"},
    };

    public static void main(String[] args) throws IOException {
        String text = Files.readString(Path.of(SOURCE));
        for (int k = 0; k < text.length(); k++) {
            char sign = text.charAt(k);
            Check.same("a sign of the file is plain", true, sign == '\n' || sign >= 32 && sign < 127);
        }
        String[] lines = codeOf(text).split("\n", -1);
        for (String[] rule : FORBIDDEN) {
            Pattern pattern = Pattern.compile(rule[1]);
            for (int k = 0; k < lines.length; k++) {
                Matcher found = pattern.matcher(lines[k]);
                Check.same("line " + (k + 1) + " breaks rule " + rule[0] + ":" + lines[k] + "\n ", false, found.find());
            }
        }
        measure(lines);
        Check.end();
    }

    /** Without comments and without what stands in texts; the lines stay where they are. */
    private static String codeOf(String text) {
        String plain = text.replaceAll("\"[^\"\n]*\"", "\"\"").replaceAll("//[^\n]*", "");
        Matcher comments = Pattern.compile("/\\*.*?\\*/", Pattern.DOTALL).matcher(plain);
        return comments.replaceAll(comment -> comment.group().replaceAll("[^\n]", ""));
    }

    private static void measure(String[] lines) {
        Pattern classHead = Pattern.compile("^( *)(public |private )?(static )?(final |abstract )*(class|enum|record|interface) \\w+");
        Pattern methodHead = Pattern.compile("^( +)[\\w<>\\[\\] ]+\\([^;=]*$");
        Pattern field = Pattern.compile("^ +(private )?(final )?[\\w<>]+(\\[\\])* \\w+( = .*)?;$");
        int classes = 0;
        int fields = 0;
        int depth = 0;
        int methodStart = -1;
        int methodDepth = -1;
        for (int k = 0; k < lines.length; k++) {
            String line = lines[k];
            boolean isInMethod = methodStart >= 0;
            if (!isInMethod && classHead.matcher(line).find()) {
                classes++;
                fields = 0;
            } else if (!isInMethod && methodHead.matcher(line).find()) {
                methodStart = k;
                methodDepth = depth;
                Check.same("line " + (k + 1) + " has too many parameters", false,
                    line.chars().filter(sign -> sign == ',').count() >= MOST_PARAMETERS);
            } else if (!isInMethod && depth > 0 && !line.contains("static") && field.matcher(line).find()) {
                fields++;
                Check.same("line " + (k + 1) + " is a field too many", false, fields > MOST_FIELDS);
            }
            depth += count(line, '{') - count(line, '}');
            if (methodStart >= 0 && depth == methodDepth && line.contains("}")) {
                Check.same("line " + (methodStart + 1) + ": the method is too long", false,
                    k - methodStart + 1 > MOST_LINES_OF_A_METHOD);
                methodStart = -1;
            }
        }
        Check.same("braces left open", 0, depth);
        Check.same("classes were seen", true, classes >= 2);
        Check.same("too many classes", false, classes > MOST_CLASSES);
    }

    private static long count(String line, char sign) {
        return line.chars().filter(k -> k == sign).count();
    }
}
