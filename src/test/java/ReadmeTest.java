import java.io.File;
import java.io.IOException;
import java.lang.reflect.Method;
import java.lang.reflect.Modifier;
import java.nio.file.Files;
import java.nio.file.Path;
import java.util.ArrayList;
import java.util.List;

/** README.md tells how to use the class as it is: its example holds, and it names every call and every test. */
public final class ReadmeTest {
    private static final String README = "README.md";
    private static final String TESTS = "src/test/java";

    /** The lines of the page's code. */
    private final List<String> lines = new ArrayList<>();
    private int at;

    private ReadmeTest(String text) {
        boolean isCode = false;
        for (String line : text.split("\n")) {
            if (line.startsWith("```")) {
                isCode = line.equals("```java");
            } else if (isCode) {
                lines.add(line);
            }
        }
    }

    public static void main(String[] args) throws IOException {
        String text = Files.readString(Path.of(README));
        new ReadmeTest(text).example();
        callsAreNamed(text);
        testsAreNamed(text);
        Check.end();
    }

    /** The next line of the page's code is this call, and what it says behind it begins so. */
    private void said(String call, String answer) {
        String line = at < lines.size() ? lines.get(at) : "";
        at++;
        int comment = line.indexOf("//");
        Check.same("a line of the example", call + ";", comment < 0 ? line : line.substring(0, comment).trim());
        String told = comment < 0 ? "" : line.substring(comment + 2).trim();
        Check.same("the example tells of " + call + ": " + told + "; that", true,
            told.equals(answer) || told.startsWith(answer + ":"));
    }

    private void example() {
        said("ChangeUntangler x = new ChangeUntangler()", "");
        ChangeUntangler x = new ChangeUntangler();
        said("x.addPiece(0, 10, 5, 0)", "piece " + x.addPiece(0, 10, 5, 0));
        said("x.addPiece(1, 100, 20, 0)", "piece " + x.addPiece(1, 100, 20, 0));
        said("x.setNames(0, 0, 1)", "piece 0 defines name 0 (sets are sums of powers of 2)");
        x.setNames(0, 0, 1);
        said("x.setNames(1, 2, 1)", "piece 1 uses it");
        x.setNames(1, 2, 1);
        said("x.affinity(0, 1)", "" + x.affinity(0, 1));
        said("x.groupCount()", "" + x.groupCount());
        said("x.needs(1, 0)", "" + x.needs(1, 0));
        said("x.say(0, 1, 2)", "they MUST NOT be together");
        x.say(0, 1, 2);
        said("x.parcelCount()", "" + x.parcelCount());
        said("x.broken(2)", "" + x.broken(2));
        said("x.breakage()", "" + x.breakage());
        said("x.needs(0, 2)", "throws IndexOutOfBoundsException");
        Check.isThrown("needs of no piece", IndexOutOfBoundsException.class, x, () -> x.needs(0, 2));
        said("x.say(0, 0, 1)", "throws IllegalArgumentException");
        Check.isThrown("say of the same piece", IllegalArgumentException.class, x, () -> x.say(0, 0, 1));
        Check.same("lines of code after the example", at, lines.size());
        Check.same("FLOW, as the example says", 5, x.points(0, 1, 1));
        Check.same("ALIKE, as the example says", 10, x.points(0, 1, 3));
        Check.same("parcel 0, as the example says", 1, x.parcel(0));
    }

    private static void callsAreNamed(String text) {
        for (Method method : ChangeUntangler.class.getDeclaredMethods()) {
            if (Modifier.isPublic(method.getModifiers())) {
                Check.same("the page names " + method.getName(), true, text.contains("`" + method.getName() + "("));
            }
        }
    }

    private static void testsAreNamed(String text) {
        String[] files = new File(TESTS).list();
        Check.same("tests were found", true, files != null && files.length > 0);
        for (String file : files == null ? new String[0] : files) {
            String name = file.replace(".java", "");
            Check.same("the page names " + name, true, text.contains("`" + name + "`"));
        }
    }
}
