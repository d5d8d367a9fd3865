import java.io.ByteArrayOutputStream;
import java.io.IOException;
import java.io.PrintStream;
import java.net.URL;
import java.net.URLClassLoader;
import java.nio.charset.StandardCharsets;
import java.nio.file.Files;
import java.nio.file.Path;
import java.util.Set;
import java.util.TreeSet;
import java.util.regex.Matcher;
import java.util.regex.Pattern;
import javax.tools.ToolProvider;

/** README.md's program prints what README.md tells, and README.md names each call of the face. */
public final class ReadmeTest {
    private static final String CLASS_NAME = "ReadmeProgram";

    private static int wrong = 0;

    public static void main(String[] args) throws Exception {
        String readme = Files.readString(Path.of("README.md"), StandardCharsets.UTF_8);
        String due = block(readme, "text");
        String printed = printedBy(block(readme, "java"));
        if (due.isEmpty() || !printed.equals(due)) {
            fault("the program of README.md prints\n" + printed + "told is\n" + due);
        }
        everyCallIsNamed(readme);
        System.out.println(wrong == 0 ? "readme: its program prints what it tells" : wrong + " faults");
        if (wrong != 0) {
            System.exit(1);
        }
    }

    private static void fault(String text) {
        wrong++;
        System.out.println(text);
    }

    /** The first block of a kind; nothing, if there is none. */
    private static String block(String readme, String kind) {
        Matcher found = Pattern.compile("(?ms)^```" + kind + "\\R(.*?)^```$").matcher(readme);
        return found.find() ? found.group(1) : "";
    }

    private static String printedBy(String statements) throws Exception {
        Path place = Files.createTempDirectory("readme");
        Path source = place.resolve(CLASS_NAME + ".java");
        Path compiled = place.resolve(CLASS_NAME + ".class");
        try {
            Files.writeString(source, "public final class " + CLASS_NAME
                + " {\n    public static void main(String[] args) {\n" + statements + "    }\n}\n");
            int code = ToolProvider.getSystemJavaCompiler().run(null, null, null, "-encoding", "UTF-8",
                "-cp", System.getProperty("java.class.path"), "-d", place.toString(), source.toString());
            return code == 0 ? printedByClassAt(place) : "nothing, as it can't be compiled\n";
        } finally {
            for (Path path : new Path[] {source, compiled, place}) {
                Files.deleteIfExists(path);
            }
        }
    }

    private static String printedByClassAt(Path place) throws Exception {
        ByteArrayOutputStream bytes = new ByteArrayOutputStream();
        PrintStream before = System.out;
        try (URLClassLoader loader = new URLClassLoader(new URL[] {place.toUri().toURL()})) {
            System.setOut(new PrintStream(bytes, true, StandardCharsets.UTF_8));
            loader.loadClass(CLASS_NAME).getMethod("main", String[].class).invoke(null, (Object) new String[0]);
        } finally {
            System.setOut(before);
        }
        return bytes.toString(StandardCharsets.UTF_8).replace(System.lineSeparator(), "\n");
    }

    private static void everyCallIsNamed(String readme) throws IOException {
        String document = Files.readString(Path.of("../shared/DOC.md"), StandardCharsets.UTF_8);
        Matcher heads = Pattern.compile("(?m)^## Promise \\d+: (\\w+)$").matcher(document);
        Set<String> calls = new TreeSet<>();
        while (heads.find()) {
            calls.add(heads.group(1));
        }
        if (calls.size() != 45) {
            fault("the document has another number of calls: " + calls.size());
        }
        for (String call : calls) {
            if (!readme.contains("`" + call + "`")) {
                fault("README.md doesn't name " + call);
            }
        }
    }
}
