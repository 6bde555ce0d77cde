import java.io.File;
import java.io.IOException;
import java.lang.reflect.Method;
import java.lang.reflect.Modifier;
import java.net.URL;
import java.net.URLClassLoader;
import java.nio.file.Files;
import java.nio.file.Path;
import java.util.ArrayList;
import java.util.List;
import java.util.regex.Matcher;
import java.util.regex.Pattern;
import javax.tools.JavaCompiler;
import javax.tools.ToolProvider;

/** README.md tells what is so: its Java compiles and answers as its comments say, and it names every call and test. */
public final class ReadmeTest {
    private static final Path README = Path.of("README.md");
    private static final Path TESTS = Path.of("src/test/java");
    private static final Pattern BLOCK = Pattern.compile("(?ms)^```java\n(.*?)^```$");
    // What a call answers stands first in the comment behind it, as a number or a constant's name.
    private static final Pattern ASKED = Pattern.compile(
        "(?m)^( *)(x\\.(\\w+)\\(.*\\));( +// (?:(-?\\d+)|([A-Z]+))\\b.*)$");
    private static final Due due = new Due("ReadmeTest");

    public static void main(String[] args) throws Exception {
        String page = Files.readString(README);
        examples(page);
        names(page);
        due.end();
    }

    private static void examples(String page) throws Exception {
        List<String> blocks = new ArrayList<>();
        Matcher found = BLOCK.matcher(page);
        while (found.find()) {
            blocks.add(asking(found.group(1)));
        }
        due.holds("there are examples", !blocks.isEmpty());
        for (Object row : answers(blocks)) {
            Object[] call = (Object[]) row;
            due.is((String) call[0], (Long) call[1], (Long) call[2]);
        }
    }

    /** The lines of a block, with each call that tells its answer kept beside what it answers. */
    private static String asking(String block) {
        return ASKED.matcher(block).replaceAll(line -> {
            String want = line.group(5) != null ? line.group(5) + "L" : "SkinLoads." + line.group(6);
            return Matcher.quoteReplacement(line.group(1) + "rows.add(new Object[] {\"" + line.group(2) + "\", (long) "
                + line.group(2) + ", (long) " + want + "});" + line.group(4));
        });
    }

    private static List<?> answers(List<String> blocks) throws Exception {
        StringBuilder source = new StringBuilder("public final class Examples {\n");
        source.append("public static java.util.List<Object> all() {\n");
        source.append("java.util.List<Object> rows = new java.util.ArrayList<>();\n");
        for (String block : blocks) {
            source.append("{\n").append(block).append("}\n");
        }
        source.append("return rows;\n}\n}\n");
        Path place = Files.createTempDirectory("readme");
        try {
            return compiledAnswers(place, source.toString());
        } finally {
            clear(place);
        }
    }

    private static List<?> compiledAnswers(Path place, String source) throws Exception {
        Path file = place.resolve("Examples.java");
        Files.writeString(file, source);
        JavaCompiler javac = ToolProvider.getSystemJavaCompiler();
        String path = System.getProperty("java.class.path");
        int code = javac.run(null, null, null, "-cp", path, "-d", place.toString(), file.toString());
        due.is("javac of the examples", code, 0);
        if (code != 0) {
            return List.of();
        }
        try (URLClassLoader loader = new URLClassLoader(new URL[] {place.toUri().toURL()})) {
            return (List<?>) loader.loadClass("Examples").getMethod("all").invoke(null);
        }
    }

    private static void clear(Path place) throws IOException {
        File[] files = place.toFile().listFiles();
        for (File file : files == null ? new File[0] : files) {
            Files.delete(file.toPath());
        }
        Files.delete(place);
    }

    private static void names(String page) throws IOException {
        for (Method method : SkinLoads.class.getDeclaredMethods()) {
            if (Modifier.isPublic(method.getModifiers())) {
                String name = method.getName();
                due.holds("README.md names " + name, page.contains("`" + name + "`"));
                due.holds("README.md has an example of " + name, hasExample(page, name));
            }
        }
        try (var files = Files.list(TESTS)) {
            for (Path file : (Iterable<Path>) files::iterator) {
                String name = file.getFileName().toString().replace(".java", "");
                if (name.matches("\\w+(Test|Edges)")) {
                    due.holds("README.md names " + name, page.contains("`" + name + "`"));
                }
            }
        }
    }

    private static boolean hasExample(String page, String name) {
        Matcher found = ASKED.matcher(page);
        while (found.find()) {
            if (found.group(3).equals(name)) {
                return true;
            }
        }
        return false;
    }
}
