import java.io.IOException;
import java.lang.reflect.Method;
import java.lang.reflect.Modifier;
import java.nio.file.Files;
import java.nio.file.Path;
import java.util.ArrayList;
import java.util.List;
import java.util.regex.Matcher;
import java.util.regex.Pattern;
import java.util.stream.Stream;
import javax.tools.ToolProvider;

/** README.md: its code compiles, its calls give the answers behind them, its list of tests is whole. */
public final class ReadmeTest {
    private static final Check CHECK = new Check("ReadmeTest");
    private static final Pattern BLOCK = Pattern.compile("(?s)\n```java\n(.*?)\n```\n");
    private static final Pattern ANSWERED = Pattern.compile("(hat\\.\\w+\\(.*\\));\\s+// (-?\\d+|true|false)(: .*)?");

    public static void main(String[] args) throws IOException, ReflectiveOperationException {
        String readme = Files.readString(Path.of("README.md"));
        everyCallIsShown(readme);
        everyTestIsListed(readme);
        runCode(readme);
        CHECK.finish();
    }

    /** Called by the code that is made of README.md. */
    public static void due(String call, long got, long want) {
        CHECK.due(call, got, want);
    }

    public static void due(String call, boolean got, boolean want) {
        CHECK.due(call, got, want);
    }

    private static void everyCallIsShown(String readme) {
        for (Method m : EmptyHat.class.getDeclaredMethods()) {
            if (Modifier.isPublic(m.getModifiers())) {
                CHECK.due("README.md shows " + m.getName(), readme.contains("hat." + m.getName() + "("), true);
            }
        }
    }

    private static void everyTestIsListed(String readme) throws IOException {
        try (Stream<Path> files = Files.list(Path.of("src/test/java"))) {
            for (Path file : files.filter(f -> f.toString().endsWith("Test.java")).toList()) {
                String name = file.getFileName().toString().replace(".java", "");
                CHECK.due("README.md lists " + name, readme.contains("\n| " + name + " | "), true);
            }
        }
        Matcher listed = Pattern.compile("\n\\| (\\w+Test) \\| ").matcher(readme);
        while (listed.find()) {
            Path file = Path.of("src/test/java", listed.group(1) + ".java");
            CHECK.due("there is " + file, Files.exists(file), true);
        }
    }

    private static void runCode(String readme) throws IOException, ReflectiveOperationException {
        List<String> blocks = new ArrayList<>();
        Matcher m = BLOCK.matcher(readme);
        while (m.find()) {
            blocks.add(m.group(1));
        }
        CHECK.due("blocks of code", blocks.size() > 1, true);
        String code = "public final class ReadmeCode {\n" + blocks.get(0) + "\npublic static void run() {\n"
            + asked(String.join("\n", blocks.subList(1, blocks.size()))) + "}\n}\n";
        Path folder = Path.of(ReadmeTest.class.getProtectionDomain().getCodeSource().getLocation().getPath());
        Path file = folder.resolve("ReadmeCode.java");
        Files.writeString(file, code);
        int failed = ToolProvider.getSystemJavaCompiler().run(null, null, null, "-cp", folder.toString(), "-d",
            folder.toString(), file.toString());
        CHECK.due("README.md's code compiles", failed, 0);
        if (failed == 0) {
            Class.forName("ReadmeCode").getMethod("run").invoke(null);
        }
    }

    /** The code with each call that stands on a line of its own turned into a comparison with its answer. */
    private static String asked(String code) {
        StringBuilder b = new StringBuilder();
        for (String line : code.split("\n")) {
            Matcher m = ANSWERED.matcher(line);
            boolean answered = m.matches();
            CHECK.due("an answer stands behind " + line, answered, line.startsWith("hat."));
            String call = answered ? m.group(1) : "";
            String compared = "ReadmeTest.due(\"" + call + "\", " + call + ", " + (answered ? m.group(2) : "") + ");";
            b.append(answered ? compared : line).append('\n');
        }
        return b.toString();
    }
}
