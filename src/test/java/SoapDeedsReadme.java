import java.io.IOException;
import java.net.URL;
import java.net.URLClassLoader;
import java.nio.charset.StandardCharsets;
import java.nio.file.Files;
import java.nio.file.Path;
import java.util.ArrayList;
import java.util.List;
import java.util.regex.Matcher;
import java.util.regex.Pattern;
import javax.tools.JavaCompiler;
import javax.tools.ToolProvider;

/** The examples of README.md, compiled as they stand there: run from the project's root, where .ci/run is. */
public final class SoapDeedsReadme {
    private static final Pattern BLOCK = Pattern.compile("```java\n(.*?)```", Pattern.DOTALL);
    private static final Pattern ANSWER = Pattern.compile("(x\\.\\w+\\([^;]*\\)); +// (-?\\d+|true|false)\\b.*");
    private static final int ANSWERS_LEAST = 25;

    public static void main(String[] args) throws Exception {
        List<String> blocks = blocksOf(Files.readString(Path.of("README.md"), StandardCharsets.UTF_8));
        if (blocks.size() < 2) {
            System.out.println("README.md has no examples");
            System.exit(1);
        }
        Path dir = Files.createTempDirectory("readme");
        int wrong = compile(dir, programOf(blocks)) ? run(dir) : 1;
        deleteAll(dir);
        System.out.println(wrong == 0 ? "README.md tells what the class answers" : wrong + " things in README.md are not so");
        System.exit(wrong == 0 ? 0 : 1);
    }

    private static List<String> blocksOf(String readme) {
        List<String> blocks = new ArrayList<>();
        Matcher m = BLOCK.matcher(readme);
        while (m.find()) {
            blocks.add(m.group(1));
        }
        return blocks;
    }

    /** The first block is a method; those behind it are one run of calls, each told answer being a test. */
    private static String programOf(List<String> blocks) {
        StringBuilder body = new StringBuilder();
        int answers = 0;
        for (String line : String.join("", blocks.subList(1, blocks.size())).split("\n")) {
            Matcher m = ANSWER.matcher(line);
            if (m.matches()) {
                answers++;
                body.append("wrong += due(\"").append(m.group(1)).append("\", ").append(m.group(1)).append(", \"").append(m.group(2)).append("\");\n");
            } else {
                body.append(line).append('\n');
            }
        }
        return "public final class Example {\n" + blocks.get(0)
            + "static int due(String call, Object got, String want) {\n"
            + "if (want.equals(String.valueOf(got))) { return 0; }\n"
            + "System.out.println(call + \" answered \" + got + \", README.md tells \" + want); return 1; }\n"
            + "public static int run() {\nint wrong = " + (answers < ANSWERS_LEAST ? 1 : 0) + ";\n" + body + "return wrong;\n}\n}\n";
    }

    private static boolean compile(Path dir, String program) throws IOException {
        Path file = dir.resolve("Example.java");
        Files.writeString(file, program);
        JavaCompiler compiler = ToolProvider.getSystemJavaCompiler();
        return compiler != null
            && compiler.run(null, null, null, "-cp", System.getProperty("java.class.path"), "-d", dir.toString(), file.toString()) == 0;
    }

    private static int run(Path dir) throws Exception {
        URL[] where = {dir.toUri().toURL()};
        try (URLClassLoader loader = new URLClassLoader(where)) {
            return (Integer) loader.loadClass("Example").getMethod("run").invoke(null);
        }
    }

    private static void deleteAll(Path dir) throws IOException {
        try (var files = Files.list(dir)) {
            for (Path file : files.toList()) {
                Files.delete(file);
            }
        }
        Files.delete(dir);
    }
}
