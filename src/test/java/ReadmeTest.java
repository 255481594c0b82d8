import java.io.IOException;
import java.net.URL;
import java.net.URLClassLoader;
import java.nio.file.DirectoryStream;
import java.nio.file.Files;
import java.nio.file.Path;
import java.util.regex.Matcher;
import java.util.regex.Pattern;
import javax.tools.ToolProvider;

/** The examples of README.md: what stands behind // is what the call answers. */
public final class ReadmeTest {
    private static final Pattern ANSWER =
        Pattern.compile("(?m)^((?:int|boolean) (\\w+) = .*;) +// (true|-?\\d+)(?=$|:).*$");
    private static final Checks c = new Checks("ReadmeTest");

    public static void main(String[] args) throws Exception {
        Matcher example = Pattern.compile("(?s)```java\n(.*?)```").matcher(Files.readString(Path.of("README.md")));
        int examples = 0;
        while (example.find()) {
            examples++;
            run("Example" + examples, example.group(1));
        }
        c.due("examples in README.md", examples, 2);
        c.end();
    }

    /** An example is a test of its own: it ends with exit code 1, if an answer is not as told. */
    private static void run(String name, String example) throws Exception {
        String checked = ANSWER.matcher(example).replaceAll("$1 c.due(\"$2\", $2, $3);");
        for (String line : checked.split("\n")) {
            boolean untold = line.matches("(int|boolean) .*") && !line.contains(" c.due(");
            c.due("no answer told in README.md behind '" + line + "'", untold, false);
        }
        Path dir = Files.createTempDirectory("readme");
        Path file = Files.writeString(dir.resolve(name + ".java"), "public final class " + name
            + " {\npublic static void run() {\nChecks c = new Checks(\"README.md, " + name + "\");\n" + checked
            + "c.end();\n}\n}\n");
        String path = System.getProperty("java.class.path");
        int failed = ToolProvider.getSystemJavaCompiler().run(null, null, null, "-cp", path, "-d", dir.toString(),
            file.toString());
        c.due("compiling an example of README.md", failed, 0);
        URL[] places = {dir.toUri().toURL(), Path.of(path).toUri().toURL()};
        if (failed == 0) {
            try (URLClassLoader loader = new URLClassLoader(places, ClassLoader.getPlatformClassLoader())) {
                loader.loadClass(name).getMethod("run").invoke(null);
            }
        }
        remove(dir);
    }

    private static void remove(Path dir) throws IOException {
        try (DirectoryStream<Path> files = Files.newDirectoryStream(dir)) {
            for (Path file : files) {
                Files.delete(file);
            }
        }
        Files.delete(dir);
    }
}
