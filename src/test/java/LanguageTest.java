import java.nio.charset.StandardCharsets;
import java.nio.file.Files;
import java.nio.file.Path;
import java.util.ArrayList;
import java.util.List;
import java.util.regex.Matcher;
import java.util.regex.Pattern;

/** What of ../shared/LANGUAGE.md can be seen in the class's text, line by line. */
public final class LanguageTest {
    private static final Path MAIN = Path.of("src", "main", "java", "OneStroke.java");
    private static final String[] FORBIDDEN = {"\\bthrows?\\b", "\\btry\\b", "\\bcatch\\b", "\\bsynchronized\\b", "\\bassert\\b",
        "->", "::", "Exact\\b", "\\bstatic \\{", "\\bpackage\\b", "\\bprotected\\b", "\\.(equals|hashCode|toString)\\(\\)",
        "\\bObject\\b", "\\b(Float|Double)\\b", "\\bRandom\\b", "\\bThread\\b", "System\\.(?!arraycopy)",
        "import (?!java\\.util\\.(ArrayList|List|Arrays|Iterator);)", "Arrays\\.(?!copyOf\\b|copyOfRange\\b|fill\\b)"};

    public static void main(String[] args) throws Exception {
        String text = Files.readString(MAIN, StandardCharsets.US_ASCII);
        String code = text.replaceAll("(?s)/\\*.*?\\*/", "").replaceAll("//[^\n]*", "");
        for (String one : FORBIDDEN) {
            Matcher found = Pattern.compile(one).matcher(code);
            Due.due("nothing like " + one, !found.find());
        }
        Due.due("twelve classes at most", count(code, "\\b(class|enum|interface|record) [A-Z]") <= 12);
        Due.due("static fields are final", count(code, "\\bstatic (?!final)(?![^=;{]*\\()(?!class)") == 0);
        Due.due("seven parameters at most", count(code, "\\([^()]*(,[^(),]*){7,}\\) \\{") == 0);
        methods(code);
        Due.end("LanguageTest");
    }

    private static int count(String code, String pattern) {
        Matcher all = Pattern.compile(pattern).matcher(code);
        int found = 0;
        while (all.find()) {
            found++;
        }
        return found;
    }

    /** Methods stay short, and no private one bears the name of a public one. */
    private static void methods(String code) {
        List<String> open = new ArrayList<>();
        List<String> hidden = new ArrayList<>();
        String[] lines = code.split("\n");
        Pattern head = Pattern.compile("^( {4}| {8})((?:[a-zA-Z]+(?:\\[\\])? )+)([a-zA-Z]+)\\([^()]*\\) \\{$");
        for (int k = 0; k < lines.length; k++) {
            Matcher found = head.matcher(lines[k]);
            if (found.matches()) {
                (found.group(2).contains("public") ? open : hidden).add(found.group(3));
                int end = k;
                while (end < lines.length && !lines[end].equals(found.group(1) + "}")) {
                    end++;
                }
                Due.due(found.group(3) + " is short", end - k <= 60);
            }
        }
        Due.due("the face's methods and its constructor were seen", open.size(), 42);
        for (String one : hidden) {
            Due.due(one + " is no public method's name", !open.contains(one));
        }
    }
}
