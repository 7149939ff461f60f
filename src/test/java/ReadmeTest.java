import java.io.IOException;
import java.lang.reflect.Method;
import java.lang.reflect.Modifier;
import java.nio.charset.StandardCharsets;
import java.nio.file.Files;
import java.nio.file.Path;
import java.util.ArrayList;
import java.util.List;
import java.util.regex.Matcher;
import java.util.regex.Pattern;
import java.util.stream.Collectors;
import java.util.stream.Stream;

/** What README.md says: its example, its commands, its calls and exceptions, and its tests. */
public final class ReadmeTest {
    private static final Path TESTS = Path.of("src/test/java");
    private static String readme;

    public static void main(String[] args) throws IOException, InterruptedException {
        readme = Files.readString(Path.of("README.md"));
        Check.dueText("the quoted example", blocks("java").get(0), Files.readString(TESTS.resolve("Example.java")));
        commands();
        callsAreTold();
        exceptionsAreTold();
        testsAreTold();
        Check.end();
    }

    private static List<String> blocks(String kind) {
        List<String> blocks = new ArrayList<>();
        Matcher block = Pattern.compile("```" + kind + "\n(.*?)```", Pattern.DOTALL).matcher(readme);
        while (block.find()) {
            blocks.add(block.group(1));
        }
        return blocks;
    }

    /** The commands as they are written, but into a new directory, and with few runs of RandomTest. */
    private static void commands() throws IOException, InterruptedException {
        Path build = Files.createTempDirectory("readme");
        String printed = "";
        for (String line : String.join("", blocks("sh")).split("\n")) {
            if (line.equals(".ci/run")) {
                Check.due(line + " can be run", Files.isExecutable(Path.of(line)), true);
                continue;
            }
            String answer = output(line.replace("build", build.toString()).replaceAll("(RandomTest) \\d+", "$1 2"));
            printed += line.endsWith("Example") ? answer : "";
        }
        Check.dueText("the example", printed, blocks("text").get(0));
        try (Stream<Path> made = Files.walk(build)) {
            made.sorted((one, other) -> other.compareTo(one)).forEach(path -> path.toFile().delete());
        }
    }

    private static String output(String command) throws IOException, InterruptedException {
        Process process = new ProcessBuilder("sh", "-c", command).redirectErrorStream(true).start();
        String output = new String(process.getInputStream().readAllBytes(), StandardCharsets.UTF_8);
        Check.due("exit code of " + command + ", which printed " + output, process.waitFor(), 0);
        return output;
    }

    private static void callsAreTold() throws IOException {
        String face = Files.readString(Path.of("../shared/DOC.md"));
        for (Method method : TruckPlatoons.class.getDeclaredMethods()) {
            if (Modifier.isPublic(method.getModifiers())) {
                Matcher call = Pattern.compile("public \\w+ (" + method.getName() + "\\(.*?\\))").matcher(face);
                String told = call.find() ? call.group(1).replaceAll("(int|boolean|float) ", "") : method.getName();
                Check.due("README tells " + told, readme.contains("`" + told + "`"), true);
            }
        }
    }

    /** Those out of an index are told in general, all others with the calls that throw them. */
    private static void exceptionsAreTold() {
        for (Method method : TruckPlatoons.class.getDeclaredMethods()) {
            for (Class<?> type : method.getExceptionTypes()) {
                String told = paragraph("- `" + type.getSimpleName() + "`:");
                boolean any = type == IndexOutOfBoundsException.class && !told.isEmpty();
                Check.due("README tells of " + type.getSimpleName() + " of " + method.getName() + "()",
                        any || told.contains("`" + method.getName() + "()`"), true);
            }
        }
    }

    private static String paragraph(String head) {
        Matcher paragraph = Pattern.compile(Pattern.quote(head) + ".*(\n  .*)*").matcher(readme);
        return paragraph.find() ? paragraph.group() : "";
    }

    private static void testsAreTold() throws IOException {
        try (Stream<Path> files = Files.list(TESTS)) {
            for (Path file : files.collect(Collectors.toList())) {
                String name = file.getFileName().toString().replace(".java", "");
                Check.due("README tells of " + name, readme.contains("`" + name + "`"), true);
            }
        }
    }
}
