import java.io.IOException;
import java.lang.reflect.Method;
import java.lang.reflect.Modifier;
import java.net.URL;
import java.net.URLClassLoader;
import java.nio.file.Files;
import java.nio.file.Path;
import java.util.ArrayList;
import java.util.Comparator;
import java.util.List;
import java.util.TreeSet;
import java.util.regex.Matcher;
import java.util.regex.Pattern;
import java.util.spi.ToolProvider;
import java.util.stream.Stream;

/** The Java blocks of README.md, compiled as one run of calls, each call with the answer that stands behind it. */
public final class ReadmeTest {
    private static final Path README = Path.of("README.md");
    private static final String RUN = "ReadmeRun";
    private static final Pattern CALL = Pattern.compile("(hills\\.(\\w+)\\(.*?\\)); +// (-?\\d+L?|[A-Z]+)(,? .*)?");

    private static int wrong = 0;
    private static int calls = 0;

    public static void main(String[] args) throws Exception {
        List<String> shown = javaLines(Files.readAllLines(README));
        tellMissingMethods(shown);
        run(source(shown));
        if (calls == 0) {
            tell("README.md shows no call");
        }
        System.out.println(wrong == 0 ? "README.md tells the truth" : wrong + " things are not as README.md says");
        if (wrong != 0) {
            System.exit(1);
        }
    }

    /** Called by the compiled README for each call that it shows. */
    public static void due(String call, long got, long want) {
        calls++;
        if (got != want) {
            tell("README.md, " + call + " answered " + got + ", the page says " + want);
        }
    }

    private static void tell(String what) {
        wrong++;
        System.out.println(what);
    }

    private static List<String> javaLines(List<String> page) {
        List<String> lines = new ArrayList<>();
        boolean inside = false;
        for (String line : page) {
            if (line.startsWith("```")) {
                inside = line.equals("```java");
            } else if (inside) {
                lines.add(line);
            }
        }
        return lines;
    }

    private static void tellMissingMethods(List<String> shown) {
        TreeSet<String> missing = new TreeSet<>();
        for (Method m : HillSight.class.getDeclaredMethods()) {
            if (Modifier.isPublic(m.getModifiers())) {
                missing.add(m.getName());
            }
        }
        for (String line : shown) {
            Matcher call = CALL.matcher(line);
            if (call.matches()) {
                missing.remove(call.group(2));
            }
        }
        if (!missing.isEmpty()) {
            tell("README.md shows no call of " + missing);
        }
    }

    private static String source(List<String> shown) {
        StringBuilder s = new StringBuilder("public final class " + RUN + " {\n");
        s.append("public static void main(String[] args) {\n");
        for (String line : shown) {
            Matcher call = CALL.matcher(line);
            if (call.matches()) {
                String want = call.group(3).matches("[A-Z]+") ? "HillSight." + call.group(3) : call.group(3);
                String name = call.group(1).replace("\\", "\\\\").replace("\"", "\\\"");
                s.append("ReadmeTest.due(\"" + name + "\", " + call.group(1) + ", " + want + ");\n");
            } else {
                if (line.startsWith("hills.")) {
                    tell("README.md gives no answer for " + line);
                }
                s.append(line).append('\n');
            }
        }
        return s.append("}\n}\n").toString();
    }

    private static void run(String source) throws Exception {
        Path room = Files.createTempDirectory("readme");
        try {
            Path file = Files.writeString(room.resolve(RUN + ".java"), source);
            int failed = ToolProvider.findFirst("javac").orElseThrow().run(System.out, System.out,
                "-encoding", "UTF-8", "-cp", System.getProperty("java.class.path"), "-d", room.toString(),
                file.toString());
            if (failed != 0) {
                tell("the Java blocks of README.md do not compile");
                return;
            }
            try (URLClassLoader loader = new URLClassLoader(new URL[] {room.toUri().toURL()})) {
                loader.loadClass(RUN).getMethod("main", String[].class).invoke(null, (Object) new String[0]);
            }
        } finally {
            remove(room);
        }
    }

    private static void remove(Path room) throws IOException {
        try (Stream<Path> all = Files.walk(room)) {
            for (Path path : all.sorted(Comparator.reverseOrder()).toList()) {
                Files.delete(path);
            }
        }
    }
}
