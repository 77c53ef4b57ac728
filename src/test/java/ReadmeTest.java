import java.nio.file.Files;
import java.nio.file.Path;
import java.util.regex.Matcher;
import java.util.regex.Pattern;

/**
 * The example of README.md: it compiles, and every answer that a comment tells there, as the
 * comment's first word, is the one that the call gives.
 */
public final class ReadmeTest {
    private static final Pattern BLOCK = Pattern.compile("```java\n(.*?)```", Pattern.DOTALL);
    private static final Pattern ANSWER =
            Pattern.compile("(int (\\w+) = )?(.*); *// (-?\\d+|true|false)(:.*)?");

    private static int answers;

    public static void main(String[] args) throws Exception {
        Due.watch();
        Matcher block = BLOCK.matcher(Files.readString(Path.of("README.md")));
        Due.is("README.md has an example", block.find(), true);
        String calls = withTests(block.group(1));
        Due.is("the example tells enough answers", answers >= 10, true);
        String source = "public final class Example {\n"
                + "    public static void run() {\n" + calls + "    }\n}\n";
        ClassLoader parent = ReadmeTest.class.getClassLoader();
        try (Compiled example = new Compiled("Example", source, parent)) {
            example.type().getMethod("run").invoke(null);
        }
        Due.end();
    }

    /** Behind each call whose answer is told: a comparison with it. */
    private static String withTests(String example) {
        StringBuilder all = new StringBuilder();
        for (String line : example.split("\n")) {
            Matcher told = ANSWER.matcher(line);
            if (!told.matches()) {
                all.append(line).append("\n");
                continue;
            }
            answers++;
            boolean named = told.group(2) != null;
            if (named) {
                all.append(line).append("\n");
            }
            all.append("ReadmeTest.is(\"").append(told.group(3)).append("\", ")
                    .append(named ? told.group(2) : told.group(3)).append(", \"")
                    .append(told.group(4)).append("\");\n");
        }
        return all.toString();
    }

    /** Public, unlike those of Due: the example has another loader and sees only public ones. */
    public static void is(String call, Object got, String want) {
        Due.same("README.md: " + call, String.valueOf(got), want);
    }
}
