import java.io.IOException;
import java.nio.file.Files;
import java.nio.file.Path;
import java.util.List;
import java.util.stream.Stream;

/** The example of README.md answers what stands behind its calls, and README.md names each call and each test. */
public final class ReadmeTest {
    private static final String[] CALLS = {"write", "giveBack", "pin", "error", "hardError", "start", "pass", "set",
        "type", "clearText", "perform", "stopped", "undo", "keep", "restore", "page", "program", "cell", "list",
        "next", "reason", "errorsLeft", "worst", "ifStarted", "count"};

    private static final Due due = new Due();
    private static String readme;
    private static List<String> rows;
    private static int rowsSeen;

    public static void main(String[] args) throws IOException {
        readme = Files.readString(Path.of("README.md"));
        rows = readme.lines().filter(line -> line.startsWith("memory.")).map(line -> line.replaceAll(" +", " ")).toList();
        RetiredCells memory = new RetiredCells();
        exampleOfCalls(memory);
        exampleOfTexts(memory);
        due.is("rows of the example", rows.size(), rowsSeen);
        eachCallIsNamed();
        eachTestIsNamed();
        due.end();
    }

    private static void exampleOfCalls(RetiredCells memory) {
        row("memory.write(0, 3, 1234);", "0", memory.write(0, 3, 1234));
        row("memory.set(0, 2);", "3", memory.set(0, 2));
        row("memory.error(0);", "0", memory.error(0));
        row("memory.reason(0);", "1", memory.reason(0));
        row("memory.errorsLeft(0);", "1", memory.errorsLeft(0));
        row("memory.pin(0, 3, true);", "1", memory.pin(0, 3, true));
        row("memory.errorsLeft(0);", "NONE", memory.errorsLeft(0));
        row("memory.undo();", "3", memory.undo());
        row("memory.error(0);", "1", memory.error(0));
        row("memory.page(0, 3, 0);", "1", memory.page(0, 3, 0));
        row("memory.page(0, 3, 1);", "1234", memory.page(0, 3, 1));
        row("memory.list(0);", "0", memory.list(0));
        row("memory.hardError(1);", "1234", memory.hardError(1));
        row("memory.page(0, 3, 0);", "NONE", memory.page(0, 3, 0));
        row("memory.write(5, 0, 1);", "UNKNOWN", memory.write(5, 0, 1));
    }

    private static void exampleOfTexts(RetiredCells memory) {
        type(memory, "w12=7;p12;.5;e2");
        row("memory.perform();", "4", memory.perform());
        row("memory.count(0);", "5", memory.count(0));
        row("memory.type(';');", "16", memory.type(';'));
        row("memory.perform();", "-116", memory.perform());
        row("memory.clearText();", "16", memory.clearText());
        type(memory, "f12;e0");
        row("memory.perform();", "NOT_POSSIBLE", memory.perform());
        row("memory.stopped(0);", "1", memory.stopped(0));
        row("memory.page(1, 2, 1);", "7", memory.page(1, 2, 1));
    }

    private static void type(RetiredCells memory, String text) {
        due.is("README.md types " + text, readme.contains("\"" + text + "\".toCharArray()") ? 1 : 0, 1);
        for (char character : text.toCharArray()) {
            memory.type(character);
        }
    }

    /** The next row of the example must be this call, with this answer told behind it, and it must be the answer. */
    private static void row(String call, String told, int answer) {
        String next = rowsSeen < rows.size() ? rows.get(rowsSeen) : "";
        rowsSeen++;
        due.is("row " + rowsSeen + " of README.md: " + next, next.startsWith(call + " // " + told + ":") ? 1 : 0, 1);
        due.is(call, answer, number(told));
    }

    private static int number(String told) {
        switch (told) {
            case "UNKNOWN":
                return RetiredCells.UNKNOWN;
            case "NOT_POSSIBLE":
                return RetiredCells.NOT_POSSIBLE;
            case "NONE":
                return RetiredCells.NONE;
            default:
                return Integer.parseInt(told);
        }
    }

    private static void eachCallIsNamed() {
        for (String call : CALLS) {
            due.is("README.md tells of " + call, readme.contains("| `" + call + "(") ? 1 : 0, 1);
        }
    }

    private static void eachTestIsNamed() throws IOException {
        try (Stream<Path> files = Files.list(Path.of("src/test/java"))) {
            for (Path file : files.sorted().toList()) {
                String name = file.getFileName().toString().replace(".java", "");
                due.is("README.md names " + name, readme.contains("`" + name + "`") ? 1 : 0, 1);
            }
        }
    }
}
