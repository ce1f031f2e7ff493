import java.io.IOException;
import java.lang.reflect.Method;
import java.lang.reflect.Modifier;
import java.nio.file.Files;
import java.nio.file.Path;
import java.util.regex.Matcher;
import java.util.regex.Pattern;

/** What README.md tells of the calls: its example answers as it says, its table has every call. */
public final class ReadmeTest {
    private static final Path README = Path.of("README.md");
    private static final Pattern EXAMPLE = Pattern.compile("(?s)```java\n(.*?)```");
    private static final String BEGINNING = "RainCells cells = new RainCells();";
    private static final Pattern CALL = Pattern.compile("cells\\.(\\w+\\([^)]*\\)); +// (-?\\w+)(:.*)?");

    private ReadmeTest() {
    }

    public static void main(String[] args) throws IOException {
        Check check = new Check();
        String text = Files.readString(README);
        example(check, text);
        table(check, text);
        check.end("ReadmeTest");
    }

    private static void example(Check check, String text) {
        check.part("the example");
        Matcher example = EXAMPLE.matcher(text);
        if (!example.find()) {
            check.holds("there is none", false);
            return;
        }
        StringBuilder script = new StringBuilder();
        for (String line : example.group(1).split("\n")) {
            Matcher call = CALL.matcher(line);
            if (call.matches()) {
                script.append(call.group(1)).append(" = ").append(call.group(2)).append('\n');
            } else {
                check.holds("not a call with its answer: " + line, line.equals(BEGINNING));
            }
        }
        check.holds("it has no call", script.length() > 0);
        Script.run(check, "the example", script.toString());
    }

    private static void table(Check check, String text) {
        check.part("the table");
        for (Method method : RainCells.class.getDeclaredMethods()) {
            if (Modifier.isPublic(method.getModifiers())) {
                String arguments = "\\w+" + ", \\w+".repeat(method.getParameterCount() - 1);
                Pattern row = Pattern.compile("(?m)^\\|.*`" + method.getName() + "\\(" + arguments + "\\)`.*\\|.*\\|$");
                check.holds(method.getName() + " is not in it", row.matcher(text).find());
            }
        }
    }
}
