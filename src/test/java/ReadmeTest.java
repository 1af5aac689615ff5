import java.io.ByteArrayOutputStream;
import java.io.IOException;
import java.io.PrintStream;
import java.lang.reflect.Field;
import java.lang.reflect.Method;
import java.lang.reflect.Modifier;
import java.net.URL;
import java.net.URLClassLoader;
import java.nio.charset.StandardCharsets;
import java.nio.file.Files;
import java.nio.file.Path;
import java.util.Set;
import java.util.TreeSet;
import java.util.regex.Matcher;
import java.util.regex.Pattern;
import java.util.spi.ToolProvider;
import java.util.stream.Stream;

/** Whether README.md tells the truth: its program, its tables of calls and codes, its tests. */
public final class ReadmeTest {
    private static final Check CHECK = new Check("ReadmeTest");
    private static final Path README = Path.of("README.md");
    private static final Path TESTS = Path.of("src/test/java");

    private ReadmeTest() {
    }

    public static void main(String[] args) throws Exception {
        String text = Files.readString(README, StandardCharsets.UTF_8);
        program(block(text, "java"), block(text, "text"));
        calls(text);
        codes(text);
        tests(text);
        CHECK.end();
    }

    private static String block(String text, String kind) {
        String head = "```" + kind + "\n";
        int start = text.indexOf(head);
        int end = text.indexOf("\n```", start + 1);
        return start < 0 || end < 0 ? "" : text.substring(start + head.length(), end + 1);
    }

    private static void program(String source, String want) throws Exception {
        Path place = Files.createTempDirectory("readme");
        try {
            Path file = Files.writeString(place.resolve("Honeycomb.java"), source);
            int trouble = ToolProvider.findFirst("javac").orElseThrow().run(System.out, System.out,
                "-cp", System.getProperty("java.class.path"), "-d", place.toString(),
                file.toString());
            CHECK.due("javac of README.md's program", trouble, 0);
            String got = trouble == 0 ? printed(place) : "";
            CHECK.holds("README.md's program prints what stands there, and not:\n" + got,
                !want.isEmpty() && got.equals(want));
        } finally {
            remove(place);
        }
    }

    private static String printed(Path place) throws Exception {
        PrintStream screen = System.out;
        ByteArrayOutputStream lines = new ByteArrayOutputStream();
        try (URLClassLoader loader = new URLClassLoader(new URL[] {place.toUri().toURL()})) {
            System.setOut(new PrintStream(lines, true, StandardCharsets.UTF_8));
            Method main = loader.loadClass("Honeycomb").getMethod("main", String[].class);
            main.invoke(null, (Object) new String[0]);
        } finally {
            System.setOut(screen);
        }
        return lines.toString(StandardCharsets.UTF_8).replace("\r\n", "\n");
    }

    private static void remove(Path place) throws IOException {
        try (Stream<Path> files = Files.list(place)) {
            for (Path file : files.toList()) {
                Files.delete(file);
            }
        }
        Files.delete(place);
    }

    /** The calls of the tables are the methods of the class, with as many arguments. */
    private static void calls(String text) {
        Set<String> told = new TreeSet<>();
        Pattern call = Pattern.compile("`(\\w+)\\(([^)]*)\\)`");
        for (String line : text.split("\n")) {
            Matcher found = call.matcher(line.startsWith("| `") ? line : "");
            while (found.find()) {
                String list = found.group(2);
                told.add(found.group(1) + "/" + (list.isEmpty() ? 0 : list.split(", ").length));
            }
        }
        Set<String> there = new TreeSet<>();
        for (Method method : PeriodicNet.class.getDeclaredMethods()) {
            if (Modifier.isPublic(method.getModifiers())) {
                there.add(method.getName() + "/" + method.getParameterCount());
            }
        }
        CHECK.holds("README.md's calls are " + there + ", not " + told, told.equals(there));
    }

    private static void codes(String text) throws IllegalAccessException {
        int codes = 0;
        for (Field field : PeriodicNet.class.getDeclaredFields()) {
            if (Modifier.isPublic(field.getModifiers())) {
                String row = "| `" + field.getName() + "` | " + field.getInt(null) + " | ";
                CHECK.holds("README.md has " + row, text.contains(row));
                codes++;
            }
        }
        CHECK.due("codes in README.md", text.split("\n\\| `\\w+` \\| -").length - 1, codes);
    }

    private static void tests(String text) throws IOException {
        try (Stream<Path> files = Files.list(TESTS)) {
            for (Path file : files.toList()) {
                String name = file.getFileName().toString().replace(".java", "");
                CHECK.holds("README.md names " + name,
                    !name.endsWith("Test") || text.contains("`" + name + "`"));
            }
        }
    }
}
