import java.io.File;
import java.io.IOException;
import java.lang.reflect.InvocationTargetException;
import java.net.URL;
import java.net.URLClassLoader;
import java.nio.file.Files;
import java.nio.file.Path;
import java.util.ArrayList;
import java.util.Comparator;
import java.util.List;
import java.util.regex.Matcher;
import java.util.regex.Pattern;
import java.util.stream.Stream;
import javax.tools.ToolProvider;

/** README.md's example, compiled as it stands there: each call answers what stands behind it. */
public final class ReadmeTest {

    private static final Checks C = new Checks("ReadmeTest");

    /** A call of the example, and the number or the boolean that it answers. */
    private static final Pattern CALL = Pattern.compile("(x\\..*);\\s+// (-?\\d+|true|false).*");

    public static void main(String[] args) throws IOException, ReflectiveOperationException {
        List<String> blocks = blocks(Files.readString(Path.of("README.md")));
        C.due("blocks of Java in README.md", blocks.size(), 2);
        Path folder = Files.createTempDirectory("readme");
        try {
            Path source = folder.resolve("Example.java");
            Files.writeString(source, program(blocks));
            int failed = ToolProvider.getSystemJavaCompiler().run(null, null, null, "-cp",
                    System.getProperty("java.class.path"), "-d", folder.toString(),
                    source.toString());
            C.due("README.md's example compiles", failed, 0);
            run(folder);
        } finally {
            remove(folder);
        }
        C.end();
    }

    private static List<String> blocks(String readme) {
        List<String> found = new ArrayList<>();
        Matcher m = Pattern.compile("(?s)```java\n(.*?)```").matcher(readme);
        while (m.find()) {
            found.add(m.group(1));
        }
        return found;
    }

    /** The first block is a method, the second one what is done with it. */
    private static String program(List<String> blocks) {
        StringBuilder text = new StringBuilder("public final class Example {\n");
        text.append(blocks.get(0)).append("public static void main(String[] args) {\n");
        int calls = 0;
        for (String line : blocks.get(1).split("\n")) {
            Matcher m = CALL.matcher(line);
            if (m.matches()) {
                text.append("due(\"").append(m.group(1)).append("\", ").append(m.group(1));
                text.append(", ").append(m.group(2)).append(");\n");
                calls++;
            } else {
                text.append(line).append('\n');
            }
        }
        C.due("README.md's example has many calls, " + calls, calls >= 20, true);
        return text.append("}\n").append(due("long")).append(due("boolean")).append("}\n")
                .toString();
    }

    private static String due(String type) {
        return "static void due(String call, " + type + " got, " + type + " want) {\n"
                + "if (got != want) throw new IllegalStateException("
                + "call + \" answered \" + got + \", README.md says \" + want);\n}\n";
    }

    private static void run(Path folder) throws IOException, ReflectiveOperationException {
        URL[] places = {folder.toUri().toURL()};
        try (URLClassLoader loader = new URLClassLoader(places, FairLines.class.getClassLoader())) {
            loader.loadClass("Example").getMethod("main", String[].class)
                    .invoke(null, (Object) new String[0]);
        } catch (InvocationTargetException e) {
            C.due(e.getCause().getMessage(), false, true);
        }
    }

    private static void remove(Path folder) throws IOException {
        try (Stream<Path> all = Files.walk(folder)) {
            all.sorted(Comparator.reverseOrder()).map(Path::toFile).forEach(File::delete);
        }
    }
}
