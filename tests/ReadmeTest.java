import java.io.File;
import java.io.IOException;
import java.nio.file.Files;
import java.nio.file.Path;
import java.util.ArrayList;
import java.util.List;
import java.util.regex.Matcher;
import java.util.regex.Pattern;

/** What README.md says of how to use the class and how to run its tests holds as it is written there. */
public final class ReadmeTest {
    private static final Check check = new Check();

    public static void main(String[] args) throws Exception {
        String readme = Files.readString(Path.of("README.md"));
        example(readme);
        commands(readme);
        calls(readme, Files.readString(Path.of("../shared/DOC.md")));
        constants(readme);
        files(readme);
        check.end();
    }

    private static void example(String readme) throws IOException {
        if (!readme.contains("```java\n" + Files.readString(Path.of("example/Yours.java")) + "```\n")) {
            check.fail("README.md shows another example/Yours.java");
        }
    }

    /** Each line that is a command, but for .ci/run, which runs this test. */
    private static void commands(String readme) throws IOException, InterruptedException {
        Matcher command = Pattern.compile("(?m)^    ((?:javac|java) .+)$").matcher(readme);
        int count = 0;
        while (command.find()) {
            count++;
            String answer = answerOf(command.group(1));
            if (command.group(1).endsWith(" Yours") && !readme.contains("```text\n" + answer + "```\n")) {
                check.fail(command.group(1) + " prints otherwise:\n" + answer);
            }
        }
        check.due(0, "commands", count, 4);
        if (!readme.contains("\n    .ci/run\n") || !Files.isExecutable(Path.of(".ci/run"))) {
            check.fail(".ci/run isn't told, or can't be run");
        }
    }

    private static String answerOf(String command) throws IOException, InterruptedException {
        File answer = new File("build/answer.txt");
        answer.getParentFile().mkdirs();
        Process process = new ProcessBuilder(command.split(" ")).redirectErrorStream(true).redirectOutput(answer).start();
        if (process.waitFor() != 0) {
            check.fail(command + " fails:\n" + Files.readString(answer.toPath()));
        }
        return Files.readString(answer.toPath());
    }

    /** The table has each call of the document's face, as its promise names it, and no other. */
    private static void calls(String readme, String doc) {
        List<String> due = new ArrayList<>();
        Matcher promise = Pattern.compile("## Promise (\\d+): \\w+\n\n`(?:int|long) (\\w+\\(.*\\))`").matcher(doc);
        while (promise.find()) {
            due.add(promise.group(1) + " " + promise.group(2).replaceAll("\\bint ", ""));
        }
        List<String> got = new ArrayList<>();
        Matcher row = Pattern.compile("(?m)^\\| (\\d+) \\| `(.+?)`").matcher(readme);
        while (row.find()) {
            got.add(row.group(1) + " " + row.group(2));
        }
        if (!got.equals(due) || due.size() != 35) {
            check.fail("README.md tells the calls " + got + ", due are " + due);
        }
    }

    private static void constants(String readme) throws ReflectiveOperationException {
        for (String name : List.of("NONE", "BAD", "STATE", "FULL")) {
            int value = HatsInRing.class.getField(name).getInt(null);
            if (!Pattern.compile(value + " \\(?`" + name + "`").matcher(readme).find()) {
                check.fail("README.md doesn't tell that " + name + " is " + value);
            }
        }
    }

    /** Whatever looks like a file or a folder is there. */
    private static void files(String readme) {
        Matcher path = Pattern.compile("`([.\\w]*[/.][./\\w]+|tests)`").matcher(readme);
        int count = 0;
        while (path.find()) {
            count++;
            if (!Files.exists(Path.of(path.group(1)))) {
                check.fail("there is no " + path.group(1));
            }
        }
        if (count < 8) {
            check.fail("too few files: " + count);
        }
    }
}
