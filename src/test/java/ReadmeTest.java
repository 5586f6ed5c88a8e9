import java.io.File;
import java.lang.reflect.Method;
import java.lang.reflect.Modifier;
import java.nio.charset.StandardCharsets;
import java.nio.file.Files;
import java.nio.file.Path;
import java.util.Comparator;
import java.util.List;
import java.util.stream.Collectors;
import java.util.stream.Stream;

/** README.md's example prints just what README.md says it prints, and every call of the face is told there. */
public final class ReadmeTest {
    public static void main(String[] args) throws Exception {
        Check check = new Check();
        List<String> lines = Files.readAllLines(Path.of("README.md"), StandardCharsets.UTF_8);
        Path folder = Files.createTempDirectory("readme");
        try {
            check.same("the example", printed(folder, block(lines, "java")), block(lines, "text"));
        } finally {
            remove(folder);
        }
        for (Method method : ConeForge.class.getDeclaredMethods()) {
            if (Modifier.isPublic(method.getModifiers())) {
                String row = "| `" + method.getName() + "(";
                check.same(method.getName() + " is told", lines.stream().anyMatch(line -> line.startsWith(row)), true);
            }
        }
        check.same("how the tests are run is told", lines.contains(".ci/run"), true);
        check.end();
    }

    /** The lines of the first block of a kind. */
    private static String block(List<String> lines, String kind) {
        int from = lines.indexOf("```" + kind) + 1;
        return lines.subList(from, lines.size()).stream().takeWhile(line -> !line.equals("```"))
                .collect(Collectors.joining("\n"));
    }

    private static String printed(Path folder, String program) throws Exception {
        Path file = Files.writeString(folder.resolve("Example.java"), program);
        String classes = System.getProperty("java.class.path");
        return run("javac", "-cp", classes, "-d", folder.toString(), file.toString())
                + run("java", "-cp", classes + File.pathSeparator + folder, "Example");
    }

    private static String run(String... command) throws Exception {
        Process process = new ProcessBuilder(command).redirectError(ProcessBuilder.Redirect.INHERIT).start();
        String out = new String(process.getInputStream().readAllBytes(), StandardCharsets.UTF_8);
        int end = process.waitFor();
        return (end == 0 ? "" : command[0] + " ended with " + end + "\n") + out.strip();
    }

    private static void remove(Path folder) throws Exception {
        try (Stream<Path> files = Files.walk(folder)) {
            for (Path file : files.sorted(Comparator.reverseOrder()).collect(Collectors.toList())) {
                Files.delete(file);
            }
        }
    }
}
