import java.io.File;
import java.nio.file.Files;
import java.nio.file.Path;
import java.util.Comparator;
import java.util.TreeSet;
import java.util.regex.Matcher;
import java.util.regex.Pattern;
import java.util.stream.Stream;

/** The examples of README.md, compiled as they stand; each answer told behind a call is the one that comes. */
public final class ReadmeTest {
    private static final Pattern BLOCK = Pattern.compile("(?s)```java\n(.*?)```");
    private static final Pattern ASKED = Pattern.compile("(x\\.(\\w+)\\(.*\\));\\s+// (-?\\d+)\\b.*");

    private static final StringBuilder HELPERS = new StringBuilder();
    private static final StringBuilder STEPS = new StringBuilder();
    private static final TreeSet<String> TOLD = new TreeSet<>();

    public static void main(String[] args) throws Exception {
        Checks checks = new Checks("ReadmeTest");
        Matcher blocks = BLOCK.matcher(Files.readString(Path.of("README.md")));
        while (blocks.find()) {
            if (blocks.group(1).startsWith("static")) {
                HELPERS.append(blocks.group(1));
            } else {
                blocks.group(1).lines().forEach(ReadmeTest::step);
            }
        }
        for (String call : "church fault count level saws row write paste seen image back".split(" ")) {
            checks.isTrue("README tells what " + call + " answers", TOLD.contains(call));
        }
        checks.due("README's examples", run(), 0);
        checks.finish();
    }

    private static void step(String line) {
        Matcher asked = ASKED.matcher(line);
        if (asked.matches()) {
            TOLD.add(asked.group(2));
            STEPS.append("checks.due(\"" + asked.group(1) + "\", " + asked.group(1) + ", " + asked.group(3) + ");\n");
        } else {
            STEPS.append(line).append('\n');
        }
    }

    /** Compiles and runs them by themselves, as somebody would who takes them from the page: 0 if all is as told. */
    private static int run() throws Exception {
        Path dir = Files.createTempDirectory("readme");
        try {
            Path file = dir.resolve("ReadmeExample.java");
            Files.writeString(file, "public final class ReadmeExample {\n" + HELPERS
                    + "public static void main(String[] args) {\nChecks checks = new Checks(\"README.md\");\n" + STEPS
                    + "checks.finish();\n}\n}\n");
            String paths = dir + File.pathSeparator + System.getProperty("java.class.path");
            int failed = start("javac", "-Xlint:all", "-Werror", "-d", dir.toString(), "-cp", paths, file.toString());
            return failed != 0 ? failed : start("java", "-cp", paths, "ReadmeExample");
        } finally {
            remove(dir);
        }
    }

    private static int start(String... command) throws Exception {
        return new ProcessBuilder(command).inheritIO().start().waitFor();
    }

    private static void remove(Path dir) throws Exception {
        try (Stream<Path> all = Files.walk(dir)) {
            for (Path path : all.sorted(Comparator.reverseOrder()).toArray(Path[]::new)) {
                Files.delete(path);
            }
        }
    }
}
