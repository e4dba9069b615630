import java.io.IOException;
import java.nio.file.Files;
import java.nio.file.Path;
import java.util.HashSet;
import java.util.List;
import java.util.Set;
import java.util.regex.Matcher;
import java.util.regex.Pattern;
import javax.tools.JavaCompiler;
import javax.tools.ToolProvider;

/** The example of README.md compiles as it stands there, and each call answers what is told behind it. */
public final class ReadmeTest {
    private static final Pattern CALL = Pattern.compile("(x\\.(\\w+)\\([^;]*\\));\\s*// (-?\\d+|[A-Z]+)\\b.*");
    private static final int LEAST_CALLS = 30;
    private static int wrong;
    private static int looked;

    public static void main(String[] args) throws IOException, ReflectiveOperationException {
        String readme = Files.readString(Path.of("README.md"));
        String example = between(readme, "```java\n", "```");
        every(readme);
        if (wrong == 0) {
            run(example);
        }
        if (wrong == 0 && looked < LEAST_CALLS) {
            complain("the example has but " + looked + " calls with an answer");
        }
        if (wrong != 0) {
            System.exit(1);
        }
        System.out.println(looked + " answers are as README.md says");
    }

    /** Called by the example, once it is a class. */
    public static void due(String call, long got, long want) {
        looked++;
        if (got != want) {
            complain(call + " answered " + got + ", README.md says " + want);
        }
    }

    private static void complain(String what) {
        wrong++;
        System.out.println(what);
    }

    private static String between(String whole, String first, String last) {
        int from = whole.indexOf(first);
        int to = from < 0 ? -1 : whole.indexOf(last, from + first.length());
        if (to < 0) {
            complain("README.md has no example");
            return "";
        }
        return whole.substring(from + first.length(), to);
    }

    /** README.md names each call, so that none is forgotten in its table. */
    private static void every(String readme) throws IOException {
        Set<String> told = new HashSet<>();
        Matcher names = Pattern.compile("`(\\w+)`").matcher(readme);
        while (names.find()) {
            told.add(names.group(1));
        }
        String face = between(Files.readString(Path.of("../shared/DOC.md")), "```java\n", "```");
        Matcher calls = Pattern.compile("public (?:int|long) (\\w+)\\(").matcher(face);
        while (calls.find()) {
            if (!told.contains(calls.group(1))) {
                complain("README.md does not name " + calls.group(1));
            }
        }
    }

    private static void run(String example) throws IOException, ReflectiveOperationException {
        StringBuilder source = new StringBuilder("public final class Example {\n    public static void main(String[] args) {\n");
        for (String line : example.split("\n")) {
            source.append(checked(line)).append('\n');
        }
        source.append("    }\n}\n");
        Path dir = Files.createTempDirectory("readme");
        try {
            Path file = Files.writeString(dir.resolve("Example.java"), source.toString());
            JavaCompiler compiler = ToolProvider.getSystemJavaCompiler();
            String path = System.getProperty("java.class.path");
            if (compiler == null || compiler.run(null, null, null, "-cp", path, "-d", dir.toString(), file.toString()) != 0) {
                complain("the example does not compile");
                return;
            }
            start(dir);
        } finally {
            for (String name : List.of("Example.java", "Example.class")) {
                Files.deleteIfExists(dir.resolve(name));
            }
            Files.deleteIfExists(dir);
        }
    }

    private static void start(Path dir) throws IOException, ReflectiveOperationException {
        java.net.URL[] places = {dir.toUri().toURL()};
        try (java.net.URLClassLoader loader = new java.net.URLClassLoader(places, ReadmeTest.class.getClassLoader())) {
            loader.loadClass("Example").getMethod("main", String[].class).invoke(null, (Object) new String[0]);
        }
    }

    /** A call with an answer behind it becomes a comparison; every other line stays. */
    private static String checked(String line) {
        Matcher call = CALL.matcher(line);
        if (!call.matches()) {
            if (line.startsWith("x.")) {
                complain("no answer is told behind " + line);
            }
            return line;
        }
        String want = call.group(3);
        boolean isName = Character.isUpperCase(want.charAt(0));
        return "ReadmeTest.due(\"" + call.group(1) + "\", " + call.group(1) + ", " + (isName ? "WhyRoom." : "") + want + ");";
    }
}
