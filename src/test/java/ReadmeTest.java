import java.io.File;
import java.nio.charset.StandardCharsets;
import java.nio.file.Files;
import java.nio.file.Path;
import java.util.ArrayList;
import java.util.Arrays;
import java.util.List;

/** README.md's program is compiled and run by README.md's own commands. */
final class ReadmeTest {
    private static final Check check = new Check("ReadmeTest");
    private static final String CLASS = "src/main/java/StepOwed.java";

    public static void main(String[] args) throws Exception {
        List<String> page = Files.readAllLines(Path.of("README.md"), StandardCharsets.UTF_8);
        Path place = Files.createTempDirectory("readme");
        try {
            use(page, place);
        } finally {
            empty(place.toFile());
        }
        tests(page);
        check.end();
    }

    private static void use(List<String> page, Path place) throws Exception {
        Files.createDirectories(place.resolve(CLASS).getParent());
        Files.copy(Path.of(CLASS), place.resolve(CLASS));
        Files.writeString(place.resolve("Debtor.java"), block(page, "```java"));
        List<String> commands = commands(page, "Debtor");
        check.due("one command to compile it, one to run it", commands.size(), 2);
        String told = "";
        for (String command : commands) told = told + run(command, place);
        check.due("it prints " + told, told.equals(block(page, "```text")));
    }

    private static void tests(List<String> page) {
        check.due("the command for all tests", commands(page, ".ci/run").equals(List.of("bash .ci/run")));
        check.due("it is there", new File(".ci/run").canExecute());
        String text = String.join("\n", page);
        File[] files = new File("src/test/java").listFiles();
        check.due("tests are there", files != null && files.length > 0);
        for (File file : files) {
            String name = file.getName().replace(".java", "");
            check.due("the page tells of " + name, text.contains("`" + name + "`"));
        }
    }

    private static String block(List<String> page, String fence) {
        int from = page.indexOf(fence) + 1;
        check.due(fence + " is there", from > 0);
        StringBuilder lines = new StringBuilder();
        for (int k = from; k < page.size() && !page.get(k).equals("```"); k++) lines.append(page.get(k)).append('\n');
        return lines.toString();
    }

    /** The lines set in by four blanks that hold the word and stand in no block. */
    private static List<String> commands(List<String> page, String word) {
        List<String> found = new ArrayList<>();
        boolean block = false;
        for (String line : page) {
            if (line.startsWith("```")) block = !block;
            if (!block && line.startsWith("    ") && line.contains(word)) found.add(line.trim());
        }
        return found;
    }

    private static String run(String command, Path place) throws Exception {
        ProcessBuilder builder = new ProcessBuilder(Arrays.asList(command.split(" ")));
        Process process = builder.directory(place.toFile()).redirectErrorStream(true).start();
        String told = new String(process.getInputStream().readAllBytes(), StandardCharsets.UTF_8);
        check.due(command + " ends well", process.waitFor(), 0);
        return told;
    }

    private static void empty(File place) {
        File[] inside = place.listFiles();
        if (inside != null) for (File file : inside) empty(file);
        check.due(place + " is gone", place.delete());
    }
}
