import java.io.File;
import java.io.IOException;
import java.nio.file.Files;
import java.nio.file.Path;
import java.util.ArrayList;
import java.util.Comparator;
import java.util.List;
import java.util.regex.Matcher;
import java.util.regex.Pattern;
import java.util.stream.Collectors;
import java.util.stream.Stream;
import javax.tools.ToolProvider;

/**
 * README.md's examples, compiled and run as they stand there: its blocks of java are one program, in which the
 * comment behind a call begins with the call's answer; its blocks of sh are run, too.
 */
public final class ReadmeTest {
    private static final Path README = Path.of("README.md");
    private static final Pattern BLOCK = Pattern.compile("^```(\\w+)\n(.*?)^```$", Pattern.MULTILINE | Pattern.DOTALL);
    private static final Pattern LINE = Pattern.compile("(.*?);(?:\\s*//\\s*(.*))?");
    private static final Pattern ANSWER = Pattern.compile("(-?\\d+|true|false|throws \\w+)\\b.*");
    private static final String[] SHOWN = {"feed", "end", "street", "law", "fault", "round", "whoLit", "ask", "learnt"};
    private static final String CLASSES = "/tmp/out";

    private final String readme;
    private final StringBuilder methods = new StringBuilder();
    private final StringBuilder run = new StringBuilder();
    private int answers;

    private ReadmeTest(String readme) {
        this.readme = readme;
    }

    public static void main(String[] args) throws IOException, InterruptedException {
        Path folder = Files.createTempDirectory("readme");
        try {
            ReadmeTest test = new ReadmeTest(Files.readString(README));
            Check.begin("README.md");
            test.readExamples();
            test.runExamples(folder);
            test.runCommands(folder.resolve("out"));
        } finally {
            remove(folder);
        }
        Check.end();
    }

    private void readExamples() {
        Matcher block = BLOCK.matcher(readme);
        while (block.find()) {
            String text = block.group(2);
            if (block.group(1).equals("java") && text.startsWith("static ")) {
                methods.append(text);
            } else if (block.group(1).equals("java")) {
                int line = (int) readme.substring(0, block.start(2)).lines().count();
                for (String one : text.split("\n")) {
                    line++;
                    readLine(line, one.strip());
                }
            }
        }
        for (String name : SHOWN) {
            Check.due("it has an example of " + name, run.indexOf("street." + name + "(") >= 0, true);
        }
    }

    private void readLine(int line, String text) {
        Matcher m = LINE.matcher(text);
        boolean isStatement = m.matches();
        Matcher answer = ANSWER.matcher(isStatement && m.group(2) != null ? m.group(2) : "");
        if (isStatement && m.group(2) == null) {
            run.append(m.group(1)).append(";\n");
        } else if (answer.matches()) {
            answers++;
            String want = answer.group(1).startsWith("throws") ? "\"" + answer.group(1) + "\"" : answer.group(1);
            run.append("Check.due(\"line ").append(line).append(", ").append(m.group(1).replace("\"", "'"))
                .append("\", Check.answerOf(() -> ").append(m.group(1)).append("), ").append(want).append(");\n");
        } else {
            Check.due("line " + line, text, "a call, and behind it its answer");
        }
    }

    private void runExamples(Path folder) throws IOException, InterruptedException {
        Path source = folder.resolve("Example.java");
        Files.writeString(source, "public final class Example {\n" + methods
            + "public static void main(String[] args) {\n" + run + "Check.end();\n}\n}\n");
        String path = System.getProperty("java.class.path");
        int failed = ToolProvider.getSystemJavaCompiler().run(null, null, null, "-cp", path, "-d", folder.toString(),
            source.toString());
        Check.due("errors of the examples", failed, 0);
        Check.due("there are examples", answers > 0, true);
        runs("the examples", "java", "-cp", path + File.pathSeparator + folder, "Example");
    }

    private static void runs(String what, String... command) throws IOException, InterruptedException {
        Process process = new ProcessBuilder(command).redirectErrorStream(true).start();
        String said = new String(process.getInputStream().readAllBytes());
        Check.due(what, process.waitFor() == 0 ? "runs" : said, "runs");
    }

    /** Runs the commands, with a folder of this test's own for the classes; but not .ci/run, which runs this test. */
    private void runCommands(Path out) throws IOException, InterruptedException {
        List<String> commands = new ArrayList<>();
        Matcher block = BLOCK.matcher(readme);
        while (block.find()) {
            if (block.group(1).equals("sh")) {
                commands.addAll(block.group(2).lines().collect(Collectors.toList()));
            }
        }
        Check.due("all tests are run by", commands.remove("bash .ci/run"), true);
        Check.due("there are other commands", commands.size() > 0, true);
        for (String command : commands) {
            runs(command, "bash", "-c", command.replace(CLASSES, out.toString()));
        }
    }

    private static void remove(Path folder) throws IOException {
        try (Stream<Path> all = Files.walk(folder)) {
            for (Path one : all.sorted(Comparator.reverseOrder()).collect(Collectors.toList())) {
                Files.delete(one);
            }
        }
    }
}
