import java.lang.reflect.Method;
import java.lang.reflect.Modifier;
import java.nio.charset.StandardCharsets;
import java.nio.file.Files;
import java.nio.file.Path;
import java.util.List;
import java.util.regex.Matcher;
import java.util.regex.Pattern;
import java.util.stream.Collectors;
import java.util.stream.Stream;

/** What README.md shows is so: each call of its examples has the answer beside it, and it names all calls and tests. */
public final class ReadmeTest {
    private static final Pattern BLOCK = Pattern.compile("```java\n(.*?)```", Pattern.DOTALL);
    private static final Pattern CALL = Pattern.compile("x\\.(\\w+)\\((.*)\\); +// (-?\\d+|[A-Z]+)(: .*)?");

    private static Run run;

    public static void main(String[] args) throws Exception {
        String readme = Files.readString(Path.of("README.md"), StandardCharsets.UTF_8);
        Matcher blocks = BLOCK.matcher(readme);
        while (blocks.find()) {
            blocks.group(1).lines().forEach(ReadmeTest::play);
        }
        for (Method one : OneStroke.class.getDeclaredMethods()) {
            if (Modifier.isPublic(one.getModifiers())) {
                boolean shown = readme.contains("x." + one.getName() + "(");
                Due.due("README.md shows " + one.getName(), shown);
            }
        }
        for (String test : tests()) {
            Due.due("README.md tells of " + test, readme.contains("`" + test + "`"));
        }
        Due.end("ReadmeTest");
    }

    private static void play(String line) {
        if (line.equals("OneStroke x = new OneStroke();")) {
            run = Run.of(1, "A new object");
            return;
        }
        Matcher call = CALL.matcher(line);
        boolean one = call.matches();
        Due.due("README.md shows a call and its answer: " + line, one);
        if (one) {
            run.due(call.group(1) + "(" + numbers(call.group(2)) + ")", answer(call.group(3)));
        }
    }

    private static String numbers(String written) {
        Matcher hex = Pattern.compile("0x[0-9a-f]+").matcher(written.replace("OneStroke.", ""));
        return hex.replaceAll(one -> Integer.decode(one.group()).toString());
    }

    private static int answer(String written) {
        try {
            return written.matches("[A-Z]+") ? OneStroke.class.getField(written).getInt(null) : Integer.parseInt(written);
        } catch (ReflectiveOperationException unknown) {
            throw new IllegalStateException(written, unknown);
        }
    }

    private static List<String> tests() throws java.io.IOException {
        try (Stream<Path> files = Files.list(Path.of("src", "test", "java"))) {
            return files.map(one -> one.getFileName().toString()).filter(one -> one.endsWith("Test.java"))
                    .map(one -> one.replace(".java", "")).sorted().collect(Collectors.toList());
        }
    }
}
