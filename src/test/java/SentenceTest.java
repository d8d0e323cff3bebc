import java.io.IOException;
import java.nio.file.Files;
import java.nio.file.Path;
import java.util.ArrayList;
import java.util.Comparator;
import java.util.List;
import java.util.regex.Matcher;
import java.util.regex.Pattern;
import java.util.stream.Collectors;
import java.util.stream.Stream;

/**
 * Whether each sentence of the document from 'Terms' to the last promise has its test: what stands in no
 * Check.sentence(..) of an edge test is told. With the word list it tells where each sentence's test is.
 */
public final class SentenceTest {
    private static final Path TESTS = Path.of("src/test/java");
    private static final Pattern SENTENCE =
        Pattern.compile("\\bsentence\\(\"([\\d, ]+)\",\\s*((?:\"[^\"]*\"[\\s+]*)+)\\);");

    /** What one test says that it stands for. */
    private record Said(String promises, String words, String place) {
    }

    private SentenceTest() {
    }

    public static void main(String[] args) throws IOException {
        List<Said> all = new ArrayList<>();
        try (Stream<Path> files = Files.list(TESTS)) {
            for (Path file : files.sorted().collect(Collectors.toList())) {
                if (file.getFileName().toString().endsWith("EdgeTest.java")) {
                    read(file, all);
                }
            }
        }
        if (args.length > 0 && args[0].equals("list")) {
            list(all);
            return;
        }
        for (int part = Document.TERMS; part <= Document.PROMISES; part++) {
            Check.begin(nameOf(part));
            Check.due("what has no test", withoutTest(part, all), "");
        }
        Check.end();
    }

    private static String nameOf(int part) {
        return part == Document.TERMS ? "Terms" : "Promise " + part;
    }

    private static void read(Path file, List<Said> all) throws IOException {
        String source = Files.readString(file);
        Matcher m = SENTENCE.matcher(source);
        while (m.find()) {
            String words = m.group(2).replaceAll("\"\\s*\\+\\s*\"", "").replaceAll("^\"|\"\\s*$", "");
            long line = source.substring(0, m.start()).lines().count();
            all.add(new Said(m.group(1), words, file.getFileName() + ":" + line));
        }
    }

    /** A promise's own words are looked for in it first, and in the Terms, if they are not there. */
    private static boolean isOf(Said said, int part) {
        boolean isOwn = false;
        for (int promise : Document.numbersOf(said.promises)) {
            isOwn |= Document.part(promise).contains(said.words);
            if (promise == part && Document.part(part).contains(said.words)) {
                return true;
            }
        }
        return part == Document.TERMS && !isOwn;
    }

    private static String withoutTest(int part, List<Said> all) {
        StringBuilder left = new StringBuilder(Document.part(part));
        for (Said said : all) {
            if (isOf(said, part)) {
                int at = Document.part(part).indexOf(said.words);
                while (at >= 0) {
                    for (int i = at; i < at + said.words.length(); i++) {
                        left.setCharAt(i, ' ');
                    }
                    at = Document.part(part).indexOf(said.words, at + 1);
                }
            }
        }
        return left.toString().replaceAll("(?<= )[|;.,:]*(?= |$)", "").replaceAll("\\s+", " ").trim();
    }

    private static void list(List<Said> all) {
        for (int part = Document.TERMS; part <= Document.PROMISES; part++) {
            System.out.println(nameOf(part));
            String words = Document.part(part);
            List<Said> ofPart = new ArrayList<>(all);
            int here = part;
            ofPart.removeIf(said -> !isOf(said, here));
            ofPart.sort(Comparator.comparingInt(said -> words.indexOf(said.words)));
            for (Said said : ofPart) {
                System.out.println("  " + said.place + " (" + said.promises + ") " + said.words);
            }
        }
    }
}
