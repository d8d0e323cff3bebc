import java.io.IOException;
import java.io.UncheckedIOException;
import java.nio.file.Files;
import java.nio.file.Path;
import java.util.regex.Matcher;
import java.util.regex.Pattern;

/** The document's words, but for its face and what it does not promise, with one blank wherever there are some. */
final class Document {
    static final int TERMS = 0;
    static final int PROMISES = 55;
    private static final String WHOLE = read();
    private static final String WHAT_IT_IS = even(between("## What it is", "## The public face"));
    private static final String[] PARTS = parts();

    private Document() {
    }

    /** The words of a promise without its head, or of the Terms. */
    static String part(int promise) {
        return PARTS[promise];
    }

    /** The numbers of the promises told, with commas between. */
    static int[] numbersOf(String promises) {
        String[] words = promises.split(", ");
        int[] numbers = new int[words.length];
        for (int i = 0; i < words.length; i++) {
            numbers[i] = Integer.parseInt(words[i]);
        }
        return numbers;
    }

    /** Whether these words stand in one of these promises, in the Terms, or in 'What it is'. */
    static boolean says(String promises, String words) {
        boolean found = part(TERMS).contains(words) || WHAT_IT_IS.contains(words);
        for (int promise : numbersOf(promises)) {
            found |= part(promise).contains(words);
        }
        return found;
    }

    private static String read() {
        try {
            return Files.readString(Path.of("../shared/DOC.md"));
        } catch (IOException e) {
            throw new UncheckedIOException(e);
        }
    }

    private static String between(String head, String next) {
        return WHOLE.substring(WHOLE.indexOf(head) + head.length(), WHOLE.indexOf(next));
    }

    private static String[] parts() {
        String text = between("## Terms", "## Not promised");
        String[] parts = new String[PROMISES + 1];
        Matcher head = Pattern.compile("## Promise (\\d+): .*\\s+`[^`]*`:").matcher(text);
        int part = TERMS;
        int from = 0;
        while (head.find()) {
            parts[part] = even(text.substring(from, head.start()));
            part = Integer.parseInt(head.group(1));
            from = head.end();
        }
        parts[part] = even(text.substring(from));
        return parts;
    }

    private static String even(String words) {
        return words.replaceAll("```(text)?|==== \\d\\.", " ").replaceAll("\\s+", " ").trim();
    }
}
