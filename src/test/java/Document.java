import java.io.IOException;
import java.nio.charset.StandardCharsets;
import java.nio.file.Files;
import java.nio.file.Path;
import java.util.regex.Matcher;
import java.util.regex.Pattern;

/** The document, read from its first line to its last: no words of it are passed by without being said. */
final class Document {
    private static final Path ITS_FILE = Path.of("..", "shared", "DOC.md");
    /** What stands between sentences: headings, fences, the number of a part, the form of a call. */
    private static final Pattern BETWEEN = Pattern.compile("\\G(?:\\s|#[^\\n]*\\n|```(?:java|text)?\\n|========"
            + " \\d |`[^`]*`: )");
    private static final Pattern PROMISE = Pattern.compile("## Promise (\\d+): (.*)\n");

    private final String text;
    private int place;
    private String said = "";
    /** The promise under whose heading the place is; 0 ahead of all and behind them. */
    private int heading;

    Document() {
        try {
            text = Files.readString(ITS_FILE, StandardCharsets.UTF_8);
        } catch (IOException gone) {
            throw new IllegalStateException("the document cannot be read", gone);
        }
    }

    /** These words come next; a run under them. */
    Run says(int promise, String words) {
        comes(words);
        return also(promise);
    }

    /** One more run under the words that came last. */
    Run also(int promise) {
        Due.due("promise " + promise + " stands under heading " + heading, heading == 0 || heading == promise);
        return Run.of(promise, said);
    }

    /** As also, in which everything there is is something. */
    Run rich(int promise) {
        Due.due("promise " + promise + " stands under heading " + heading, heading == 0 || heading == promise);
        return Run.rich(promise, said);
    }

    /** These words come next, which no run of calls can show to hold or not to hold. */
    void comes(String words) {
        passBetween();
        boolean there = text.startsWith(words, place);
        Due.due("the document goes on \"" + words + "\"" + (there ? "" : ", not \"" + ahead() + "\""), there);
        int found = text.indexOf(words, place);
        place = found < 0 ? place : found + words.length();
        said = words;
    }

    /** The line that comes next. */
    String line() {
        passBetween();
        int end = text.indexOf('\n', place);
        String line = text.substring(place, end < 0 ? text.length() : end);
        place += line.length();
        return line.strip();
    }

    boolean isBehindFence() {
        return text.startsWith("\n```\n", place);
    }

    /** All of it was read. */
    void end() {
        passBetween();
        Due.due("nothing is left of the document, such as \"" + ahead() + "\"", place == text.length());
    }

    private String ahead() {
        return text.substring(place, Math.min(text.length(), place + 80));
    }

    private void passBetween() {
        Matcher between = BETWEEN.matcher(text);
        while (place < text.length() && between.find(place)) {
            Matcher promise = PROMISE.matcher(between.group());
            if (promise.matches()) {
                Due.due("promises come in their order", Integer.parseInt(promise.group(1)), heading + 1);
                heading++;
            } else if (between.group().startsWith("## ")) {
                heading = 0;
            } else if (between.group().startsWith("`int ")) {
                String form = between.group().substring(1, between.group().length() - 3);
                Due.due("the face has " + form, text.contains("    public " + form + ";\n"));
            }
            place = between.end();
        }
    }
}
