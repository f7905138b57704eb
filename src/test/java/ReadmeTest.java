import java.io.IOException;
import java.net.URL;
import java.net.URLClassLoader;
import java.nio.file.Files;
import java.nio.file.Path;
import java.util.ArrayList;
import java.util.List;
import java.util.regex.Matcher;
import java.util.regex.Pattern;
import java.util.stream.Stream;
import javax.tools.JavaCompiler;
import javax.tools.ToolProvider;

/** README.md says what the calls of its example answer: its blocks are compiled and run. */
public final class ReadmeTest {
    private static final Pattern BLOCK = Pattern.compile("```java\n(.*?)```", Pattern.DOTALL);
    private static final Pattern CALL = Pattern.compile("(lake\\..*\\)); +// ([^: ]+)(:.*)?");

    private static int checks = 0;
    private static int wrong = 0;

    public static void main(String[] args) throws Exception {
        List<String> blocks = blocks(Files.readString(Path.of("README.md")));
        if (blocks.size() != 2) {
            System.out.println("two blocks of Java are due in README.md: a function and an example");
            System.exit(1);
        }
        Path folder = Files.createTempDirectory("readme");
        try {
            run(program(blocks.get(0), blocks.get(1)), folder);
        } finally {
            remove(folder);
        }
        System.out.println(checks + " answers of README.md, " + wrong + " wrong");
        if (wrong != 0 || checks < 20) {
            System.exit(1);
        }
    }

    /** The example calls this behind each of its calls. */
    public static void due(String call, String got, String want) {
        checks++;
        if (!got.equals(want)) {
            wrong++;
            System.out.println(call + " answered " + got + ", README.md says " + want);
        }
    }

    private static List<String> blocks(String text) {
        List<String> all = new ArrayList<>();
        Matcher matcher = BLOCK.matcher(text);
        while (matcher.find()) {
            all.add(matcher.group(1));
        }
        return all;
    }

    private static String program(String function, String example) {
        StringBuilder code = new StringBuilder("public class Example {\n").append(function);
        code.append("public static void main(String[] args) {\n");
        for (String line : example.split("\n")) {
            Matcher call = CALL.matcher(line);
            if (call.matches()) {
                code.append("ReadmeTest.due(\"").append(call.group(1)).append("\", String.valueOf(").append(call.group(1));
                code.append("), \"").append(call.group(2)).append("\");\n");
            } else {
                code.append(line).append('\n');
            }
        }
        return code.append("}\n}\n").toString();
    }

    private static void run(String program, Path folder) throws Exception {
        Path source = folder.resolve("Example.java");
        Files.writeString(source, program);
        JavaCompiler javac = ToolProvider.getSystemJavaCompiler();
        String path = System.getProperty("java.class.path");
        if (javac == null || javac.run(null, null, null, "-cp", path, "-d", folder.toString(), source.toString()) != 0) {
            wrong++;
            System.out.println("README.md's example does not compile");
            return;
        }
        try (URLClassLoader loader = new URLClassLoader(new URL[] {folder.toUri().toURL()})) {
            loader.loadClass("Example").getMethod("main", String[].class).invoke(null, (Object) new String[0]);
        }
    }

    private static void remove(Path folder) throws IOException {
        try (Stream<Path> files = Files.list(folder)) {
            for (Path file : files.toList()) {
                Files.delete(file);
            }
        }
        Files.delete(folder);
    }
}
