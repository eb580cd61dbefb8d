import java.io.IOException;
import java.nio.file.Files;
import java.nio.file.Path;
import java.util.Set;
import java.util.TreeSet;
import java.util.regex.Matcher;
import java.util.regex.Pattern;

/** README.md: its program prints what it says, each public call is named there, and each test. */
public final class ReadmeTest {
    private static int wrong = 0;

    private static void must(boolean holds, String what) {
        if (!holds) {
            wrong++;
            System.out.println(what);
        }
    }

    public static void main(String[] args) throws Exception {
        String page = Files.readString(Path.of("README.md"));
        example(page);
        callsAndTests(page);
        System.out.println(wrong == 0 ? "README.md holds" : wrong + " faults of README.md");
        if (wrong != 0) {
            System.exit(1);
        }
    }

    private static void example(String page) throws Exception {
        Matcher blocks = Pattern.compile("(?s)```java\n(.*?)```\n\nprints\n\n```text\n(.*?)```").matcher(page);
        must(blocks.find(), "a program and what it prints");
        if (wrong == 0) {
            String printed = printedByProgram(blocks.group(1));
            must(printed.equals(blocks.group(2)), "the program prints\n" + printed);
        }
    }

    private static String printedByProgram(String program) throws Exception {
        Path folder = Files.createTempDirectory("readme");
        Path source = folder.resolve("Shown.java");
        Files.writeString(source, "public class Shown { public static void main(String[] args) {\n" + program + "}}\n");
        String path = System.getProperty("java.class.path");
        printedBy("javac", "-cp", path, "-d", folder.toString(), source.toString());
        String printed = printedBy("java", "-cp", folder + System.getProperty("path.separator") + path, "Shown");
        remove(folder);
        return printed;
    }

    private static String printedBy(String... command) throws Exception {
        Process process = new ProcessBuilder(command).redirectError(ProcessBuilder.Redirect.INHERIT).start();
        String printed = new String(process.getInputStream().readAllBytes());
        must(process.waitFor() == 0, command[0] + " does not end well");
        return printed.replace("\r\n", "\n");
    }

    private static void remove(Path folder) throws IOException {
        try (var files = Files.list(folder)) {
            for (Path file : files.toList()) {
                Files.delete(file);
            }
        }
        Files.delete(folder);
    }

    private static void callsAndTests(String page) throws IOException {
        Set<String> named = new TreeSet<>();
        Matcher quoted = Pattern.compile("`(\\w+)`").matcher(page);
        while (quoted.find()) {
            named.add(quoted.group(1));
        }
        for (var method : RosterLanes.class.getDeclaredMethods()) {
            must(!java.lang.reflect.Modifier.isPublic(method.getModifiers()) || named.contains(method.getName()),
                    method.getName() + " is not named");
        }
        try (var files = Files.list(Path.of("src/test/java"))) {
            for (Path file : files.toList()) {
                String name = file.getFileName().toString().replace(".java", "");
                must(named.contains(name), name + " is not named");
            }
        }
    }
}
